/-! ===== methods as functions, part 5 (written by wip/gen/decall.py) ===== -/
def fb_Mo_readCond (R_Mo_readCond : MT → MI → Option (Int32 × MI)) (R_Mo_readAllOf : MT → MI → Option (Int32 × MI)) (R_Mo_readAtom : MT → MI → Option (Int32 × MI)) (t : MT) (i : MI)  : Option (Int32 × MI) :=
  (R_Mo_readAllOf t i).bind (fun (v_1, i_2) => if v_1 = 0 then (some ((0 : Int32), i_2)) else (itr (σ := MI) (ρ := Int32 × MI) (fun i_5 => (f_Mo_passes t i_5 188).bind (fun (v_6, i_7) => if v_6 = 0 then (some (.inr (((1 : Int32), i_7)))) else ((R_Mo_readAllOf t i_7).bind (fun (v_10, i_11) => if v_10 = 0 then (some (.inr (((0 : Int32), i_11)))) else ((f_Mo_emits i_11 (16 : Int32) (0 : Int32)).bind (fun i_14 => some (.inl i_14))))))) 1000000 i_2))
set_option maxHeartbeats 4000000 in
theorem cb_Mo_readCond {DR : Nat} {R_Mo_readCond : MT → MI → Option (Int32 × MI)} {R_Mo_readAllOf : MT → MI → Option (Int32 × MI)} {R_Mo_readAtom : MT → MI → Option (Int32 × MI)} (hR_Mo_readCond : ∀ {n u : Nat} {t : MT} {i : MI} {r : MR} (s : Sh n t r) , Cn DR 252 [.ref 1638] (n, u, t, i, r) (R_Mo_readCond t i ) (F_i1 n u t r) PT) (hR_Mo_readAllOf : ∀ {n u : Nat} {t : MT} {i : MI} {r : MR} (s : Sh n t r) , Cn DR 251 [.ref 1638] (n, u, t, i, r) (R_Mo_readAllOf t i ) (F_i1 n u t r) PT) (hR_Mo_readAtom : ∀ {n u : Nat} {t : MT} {i : MI} {r : MR} (s : Sh n t r) , Cn DR 250 [.ref 1638] (n, u, t, i, r) (R_Mo_readAtom t i ) (F_i1 n u t r) PT) {n u : Nat} {t : MT} {i : MI} {r : MR} (s : Sh n t r)  : Cn (DR + 8 + 1) 252 [.ref 1638] (n, u, t, i, r) (fb_Mo_readCond R_Mo_readCond R_Mo_readAllOf R_Mo_readAtom t i ) (F_i1 n u t r) PT := by
  refine cn_of (Y := K_Mo_readCond) (L0 := [.ref 1638]) rfl rfl rfl ?_
  intro d hd
  unfold fb_Mo_readCond
  refine ge_run (pc' := 1) (L' := [.ref 1638]) (S' := [.ref 1638]) 1 rfl ?_
  refine ge_cv rfl rfl rfl (t1638 s) rfl rfl rfl (D := DR) (by omega) (hR_Mo_readAllOf (n := n) (u := u) (t := t) (i := i) (r := r) s ) ?_
  rintro ⟨v_1, i_2⟩ -
  dsimp only [bkE, F_i1]
  refine ge_ne0 rfl (fun h_3 => ?_) (fun h_4 => ?_)
  · refine ge_run (pc' := 4) (L' := [.ref 1638]) (S' := [.int (0 : Int32)]) 1 rfl ?_
    exact ge_retz rfl rfl (Or.inl rfl) (And.intro rfl trivial)
  · refine ge_itr (C := fun (q : MI) e => e = .inl (5, [.ref 1638], [], (n, u, t, q, r))) ?_ _ _ _ rfl
    rintro i_5 _ rfl
    try dsimp only
    refine ge_run (pc' := 7) (L' := [.ref 1638]) (S' := [.ref 188, .ref 1638]) 2 rfl ?_
    refine ge_cv rfl rfl rfl (t1638 s) rfl rfl rfl (D := 6) (by omega) (c_Mo_passes (n := n) (u := u) (t := t) (i := i_5) (r := r) s 188 (strAd 93)) ?_
    rintro ⟨v_6, i_7⟩ -
    dsimp only [bkE, F_i1]
    refine ge_eq0 rfl (fun h_8 => ?_) (fun h_9 => ?_)
    · refine ge_run (pc' := 20) (L' := [.ref 1638]) (S' := [.int (1 : Int32)]) 1 rfl ?_
      exact ge_retz rfl rfl (Or.inr rfl) (And.intro rfl trivial)
    · refine ge_run (pc' := 10) (L' := [.ref 1638]) (S' := [.ref 1638]) 1 rfl ?_
      refine ge_cv rfl rfl rfl (t1638 s) rfl rfl rfl (D := DR) (by omega) (hR_Mo_readAllOf (n := n) (u := u) (t := t) (i := i_7) (r := r) s ) ?_
      rintro ⟨v_10, i_11⟩ -
      dsimp only [bkE, F_i1]
      refine ge_ne0 rfl (fun h_12 => ?_) (fun h_13 => ?_)
      · refine ge_run (pc' := 13) (L' := [.ref 1638]) (S' := [.int (0 : Int32)]) 1 rfl ?_
        exact ge_retz rfl rfl (Or.inl rfl) (And.intro rfl trivial)
      · refine ge_run (pc' := 17) (L' := [.ref 1638]) (S' := [.int (0 : Int32), .int (16 : Int32), .ref 1638]) 3 rfl ?_
        refine ge_cv rfl rfl rfl (t1638 s) rfl rfl rfl (D := 1) (by omega) (c_Mo_emits (n := n) (u := u) (t := t) (i := i_11) (r := r) s (16 : Int32) (0 : Int32)) ?_
        rintro i_14 -
        dsimp only [bkE, F_v1]
        refine ge_run (pc' := 5) (L' := [.ref 1638]) (S' := []) 1 rfl ?_
        exact ge_leaf (K := kX _ _) rfl
def fb_Mo_readAllOf (R_Mo_readCond : MT → MI → Option (Int32 × MI)) (R_Mo_readAllOf : MT → MI → Option (Int32 × MI)) (R_Mo_readAtom : MT → MI → Option (Int32 × MI)) (t : MT) (i : MI)  : Option (Int32 × MI) :=
  (R_Mo_readAtom t i).bind (fun (v_1, i_2) => if v_1 = 0 then (some ((0 : Int32), i_2)) else (itr (σ := MI) (ρ := Int32 × MI) (fun i_5 => (f_Mo_passes t i_5 186).bind (fun (v_6, i_7) => if v_6 = 0 then (some (.inr (((1 : Int32), i_7)))) else ((R_Mo_readAtom t i_7).bind (fun (v_10, i_11) => if v_10 = 0 then (some (.inr (((0 : Int32), i_11)))) else ((f_Mo_emits i_11 (15 : Int32) (0 : Int32)).bind (fun i_14 => some (.inl i_14))))))) 1000000 i_2))
set_option maxHeartbeats 4000000 in
theorem cb_Mo_readAllOf {DR : Nat} {R_Mo_readCond : MT → MI → Option (Int32 × MI)} {R_Mo_readAllOf : MT → MI → Option (Int32 × MI)} {R_Mo_readAtom : MT → MI → Option (Int32 × MI)} (hR_Mo_readCond : ∀ {n u : Nat} {t : MT} {i : MI} {r : MR} (s : Sh n t r) , Cn DR 252 [.ref 1638] (n, u, t, i, r) (R_Mo_readCond t i ) (F_i1 n u t r) PT) (hR_Mo_readAllOf : ∀ {n u : Nat} {t : MT} {i : MI} {r : MR} (s : Sh n t r) , Cn DR 251 [.ref 1638] (n, u, t, i, r) (R_Mo_readAllOf t i ) (F_i1 n u t r) PT) (hR_Mo_readAtom : ∀ {n u : Nat} {t : MT} {i : MI} {r : MR} (s : Sh n t r) , Cn DR 250 [.ref 1638] (n, u, t, i, r) (R_Mo_readAtom t i ) (F_i1 n u t r) PT) {n u : Nat} {t : MT} {i : MI} {r : MR} (s : Sh n t r)  : Cn (DR + 8 + 1) 251 [.ref 1638] (n, u, t, i, r) (fb_Mo_readAllOf R_Mo_readCond R_Mo_readAllOf R_Mo_readAtom t i ) (F_i1 n u t r) PT := by
  refine cn_of (Y := K_Mo_readAllOf) (L0 := [.ref 1638]) rfl rfl rfl ?_
  intro d hd
  unfold fb_Mo_readAllOf
  refine ge_run (pc' := 1) (L' := [.ref 1638]) (S' := [.ref 1638]) 1 rfl ?_
  refine ge_cv rfl rfl rfl (t1638 s) rfl rfl rfl (D := DR) (by omega) (hR_Mo_readAtom (n := n) (u := u) (t := t) (i := i) (r := r) s ) ?_
  rintro ⟨v_1, i_2⟩ -
  dsimp only [bkE, F_i1]
  refine ge_ne0 rfl (fun h_3 => ?_) (fun h_4 => ?_)
  · refine ge_run (pc' := 4) (L' := [.ref 1638]) (S' := [.int (0 : Int32)]) 1 rfl ?_
    exact ge_retz rfl rfl (Or.inl rfl) (And.intro rfl trivial)
  · refine ge_itr (C := fun (q : MI) e => e = .inl (5, [.ref 1638], [], (n, u, t, q, r))) ?_ _ _ _ rfl
    rintro i_5 _ rfl
    try dsimp only
    refine ge_run (pc' := 7) (L' := [.ref 1638]) (S' := [.ref 186, .ref 1638]) 2 rfl ?_
    refine ge_cv rfl rfl rfl (t1638 s) rfl rfl rfl (D := 6) (by omega) (c_Mo_passes (n := n) (u := u) (t := t) (i := i_5) (r := r) s 186 (strAd 92)) ?_
    rintro ⟨v_6, i_7⟩ -
    dsimp only [bkE, F_i1]
    refine ge_eq0 rfl (fun h_8 => ?_) (fun h_9 => ?_)
    · refine ge_run (pc' := 20) (L' := [.ref 1638]) (S' := [.int (1 : Int32)]) 1 rfl ?_
      exact ge_retz rfl rfl (Or.inr rfl) (And.intro rfl trivial)
    · refine ge_run (pc' := 10) (L' := [.ref 1638]) (S' := [.ref 1638]) 1 rfl ?_
      refine ge_cv rfl rfl rfl (t1638 s) rfl rfl rfl (D := DR) (by omega) (hR_Mo_readAtom (n := n) (u := u) (t := t) (i := i_7) (r := r) s ) ?_
      rintro ⟨v_10, i_11⟩ -
      dsimp only [bkE, F_i1]
      refine ge_ne0 rfl (fun h_12 => ?_) (fun h_13 => ?_)
      · refine ge_run (pc' := 13) (L' := [.ref 1638]) (S' := [.int (0 : Int32)]) 1 rfl ?_
        exact ge_retz rfl rfl (Or.inl rfl) (And.intro rfl trivial)
      · refine ge_run (pc' := 17) (L' := [.ref 1638]) (S' := [.int (0 : Int32), .int (15 : Int32), .ref 1638]) 3 rfl ?_
        refine ge_cv rfl rfl rfl (t1638 s) rfl rfl rfl (D := 1) (by omega) (c_Mo_emits (n := n) (u := u) (t := t) (i := i_11) (r := r) s (15 : Int32) (0 : Int32)) ?_
        rintro i_14 -
        dsimp only [bkE, F_v1]
        refine ge_run (pc' := 5) (L' := [.ref 1638]) (S' := []) 1 rfl ?_
        exact ge_leaf (K := kX _ _) rfl
def fb_Mo_readAtom (R_Mo_readCond : MT → MI → Option (Int32 × MI)) (R_Mo_readAllOf : MT → MI → Option (Int32 × MI)) (R_Mo_readAtom : MT → MI → Option (Int32 × MI)) (t : MT) (i : MI)  : Option (Int32 × MI) :=
  (f_Mo_sign i (40 : Int32)).bind (fun (v_1, i_2) => if v_1 = 0 then ((f_Mo_passes t i_2 174).bind (fun (v_4, i_5) => if v_4 = 0 then ((f_Mo_readTag t i_5).bind (fun (v_7, i_8) => if v_7 = 0 then ((f_Mo_readSum t i_8).bind (fun (v_10, i_11) => if v_10 = 0 then (some ((0 : Int32), i_11)) else ((f_Mo_sign i_11 (60 : Int32)).bind (fun (v_14, i_15) => if v_14 = 0 then ((f_Mo_sign i_15 (62 : Int32)).bind (fun (v_17, i_18) => if v_17 = 0 then (some ((0 : Int32), i_18)) else ((f_Mo_readSum t i_18).bind (fun (v_21, i_22) => if v_21 = 0 then (some ((0 : Int32), i_22)) else ((if v_14 = 0 then (some (13 : Int32)) else (some (12 : Int32)) : Option (Int32)).bind (fun y_25 => (f_Mo_emits i_22 y_25 (0 : Int32)).bind (fun i_28 => some ((1 : Int32), i_28)))))))) else ((f_Mo_readSum t i_15).bind (fun (v_30, i_31) => if v_30 = 0 then (some ((0 : Int32), i_31)) else ((if v_14 = 0 then (some (13 : Int32)) else (some (12 : Int32)) : Option (Int32)).bind (fun y_34 => (f_Mo_emits i_31 y_34 (0 : Int32)).bind (fun i_37 => some ((1 : Int32), i_37)))))))))) else (some ((1 : Int32), i_8)))) else (if (i_5 1638 13) = (6 : Int32) then (some ((0 : Int32), i_5)) else (bnd (wr i_5 1638 13 ((i_5 1638 13) + (1 : Int32))) (fun i_42 => (R_Mo_readAtom t i_42).bind (fun (v_43, i_44) => if v_43 = 0 then (some ((0 : Int32), i_44)) else (bnd (wr i_44 1638 13 ((i_44 1638 13) - (1 : Int32))) (fun i_47 => (f_Mo_emits i_47 (14 : Int32) (0 : Int32)).bind (fun i_48 => some ((1 : Int32), i_48)))))))))) else (if (i_2 1638 13) = (6 : Int32) then (some ((0 : Int32), i_2)) else (bnd (wr i_2 1638 13 ((i_2 1638 13) + (1 : Int32))) (fun i_52 => (R_Mo_readCond t i_52).bind (fun (v_53, i_54) => if v_53 = 0 then (some ((0 : Int32), i_54)) else (bnd (wr i_54 1638 13 ((i_54 1638 13) - (1 : Int32))) (fun i_57 => (f_Mo_sign i_57 (41 : Int32)).bind (fun (v_58, i_59) => grd2 (decide (v_58 = 0 ∨ v_58 = 1)) (some (v_58, i_59))))))))))
set_option maxHeartbeats 4000000 in
theorem cb_Mo_readAtom {DR : Nat} {R_Mo_readCond : MT → MI → Option (Int32 × MI)} {R_Mo_readAllOf : MT → MI → Option (Int32 × MI)} {R_Mo_readAtom : MT → MI → Option (Int32 × MI)} (hR_Mo_readCond : ∀ {n u : Nat} {t : MT} {i : MI} {r : MR} (s : Sh n t r) , Cn DR 252 [.ref 1638] (n, u, t, i, r) (R_Mo_readCond t i ) (F_i1 n u t r) PT) (hR_Mo_readAllOf : ∀ {n u : Nat} {t : MT} {i : MI} {r : MR} (s : Sh n t r) , Cn DR 251 [.ref 1638] (n, u, t, i, r) (R_Mo_readAllOf t i ) (F_i1 n u t r) PT) (hR_Mo_readAtom : ∀ {n u : Nat} {t : MT} {i : MI} {r : MR} (s : Sh n t r) , Cn DR 250 [.ref 1638] (n, u, t, i, r) (R_Mo_readAtom t i ) (F_i1 n u t r) PT) {n u : Nat} {t : MT} {i : MI} {r : MR} (s : Sh n t r)  : Cn (DR + 8 + 1) 250 [.ref 1638] (n, u, t, i, r) (fb_Mo_readAtom R_Mo_readCond R_Mo_readAllOf R_Mo_readAtom t i ) (F_i1 n u t r) PT := by
  refine cn_of (Y := K_Mo_readAtom) (L0 := [.ref 1638, uV]) rfl rfl rfl ?_
  intro d hd
  unfold fb_Mo_readAtom
  refine ge_run (pc' := 2) (L' := [.ref 1638, uV]) (S' := [.int (40 : Int32), .ref 1638]) 2 rfl ?_
  refine ge_cv rfl rfl rfl (t1638 s) rfl rfl rfl (D := 3) (by omega) (c_Mo_sign (n := n) (u := u) (t := t) (i := i) (r := r) s (40 : Int32)) ?_
  rintro ⟨v_1, i_2⟩ -
  dsimp only [bkE, F_i1]
  refine ge_eq0 rfl (fun h_3 => ?_) (fun h_49 => ?_)
  · refine ge_run (pc' := 33) (L' := [.ref 1638, uV]) (S' := [.ref 174, .ref 1638]) 2 rfl ?_
    refine ge_cv rfl rfl rfl (t1638 s) rfl rfl rfl (D := 6) (by omega) (c_Mo_passes (n := n) (u := u) (t := t) (i := i_2) (r := r) s 174 (strAd 86)) ?_
    rintro ⟨v_4, i_5⟩ -
    dsimp only [bkE, F_i1]
    refine ge_eq0 rfl (fun h_6 => ?_) (fun h_39 => ?_)
    · refine ge_run (pc' := 65) (L' := [.ref 1638, uV]) (S' := [.ref 1638]) 1 rfl ?_
      refine ge_cv rfl rfl rfl (t1638 s) rfl rfl rfl (D := 6) (by omega) (c_Mo_readTag (n := n) (u := u) (t := t) (i := i_5) (r := r) s ) ?_
      rintro ⟨v_7, i_8⟩ -
      dsimp only [bkE, F_i1]
      refine ge_eq0 rfl (fun h_9 => ?_) (fun h_38 => ?_)
      · refine ge_run (pc' := 70) (L' := [.ref 1638, uV]) (S' := [.ref 1638]) 1 rfl ?_
        refine ge_cv rfl rfl rfl (t1638 s) rfl rfl rfl (D := 8) (by omega) (c_Mo_readSum (n := n) (u := u) (t := t) (i := i_8) (r := r) s ) ?_
        rintro ⟨v_10, i_11⟩ -
        dsimp only [bkE, F_i1]
        refine ge_ne0 rfl (fun h_12 => ?_) (fun h_13 => ?_)
        · refine ge_run (pc' := 73) (L' := [.ref 1638, uV]) (S' := [.int (0 : Int32)]) 1 rfl ?_
          exact ge_retz rfl rfl (Or.inl rfl) (And.intro rfl trivial)
        · refine ge_run (pc' := 76) (L' := [.ref 1638, uV]) (S' := [.int (60 : Int32), .ref 1638]) 2 rfl ?_
          refine ge_cv rfl rfl rfl (t1638 s) rfl rfl rfl (D := 3) (by omega) (c_Mo_sign (n := n) (u := u) (t := t) (i := i_11) (r := r) s (60 : Int32)) ?_
          rintro ⟨v_14, i_15⟩ -
          dsimp only [bkE, F_i1]
          refine ge_run (pc' := 79) (L' := [.ref 1638, .int v_14]) (S' := [.int v_14]) 2 rfl ?_
          refine ge_ne0 rfl (fun h_16 => ?_) (fun h_29 => ?_)
          · refine ge_run (pc' := 82) (L' := [.ref 1638, .int v_14]) (S' := [.int (62 : Int32), .ref 1638]) 2 rfl ?_
            refine ge_cv rfl rfl rfl (t1638 s) rfl rfl rfl (D := 3) (by omega) (c_Mo_sign (n := n) (u := u) (t := t) (i := i_15) (r := r) s (62 : Int32)) ?_
            rintro ⟨v_17, i_18⟩ -
            dsimp only [bkE, F_i1]
            refine ge_eq0 rfl (fun h_19 => ?_) (fun h_20 => ?_)
            · refine ge_run (pc' := 88) (L' := [.ref 1638, .int v_14]) (S' := [.int (0 : Int32)]) 1 rfl ?_
              exact ge_retz rfl rfl (Or.inl rfl) (And.intro rfl trivial)
            · refine ge_run (pc' := 85) (L' := [.ref 1638, .int v_14]) (S' := [.ref 1638]) 1 rfl ?_
              refine ge_cv rfl rfl rfl (t1638 s) rfl rfl rfl (D := 8) (by omega) (c_Mo_readSum (n := n) (u := u) (t := t) (i := i_18) (r := r) s ) ?_
              rintro ⟨v_21, i_22⟩ -
              dsimp only [bkE, F_i1]
              refine ge_ne0 rfl (fun h_23 => ?_) (fun h_24 => ?_)
              · refine ge_run (pc' := 88) (L' := [.ref 1638, .int v_14]) (S' := [.int (0 : Int32)]) 1 rfl ?_
                exact ge_retz rfl rfl (Or.inl rfl) (And.intro rfl trivial)
              · refine ge_run (pc' := 91) (L' := [.ref 1638, .int v_14]) (S' := [.int v_14, .ref 1638]) 2 rfl ?_
                refine ge_bind (K1 := fun (q : Int32) e => e = .inl (95, [.ref 1638, .int v_14], [.int q, .ref 1638], (n, u, t, i_22, r))) ?_ ?_
                · refine ge_eq0 rfl (fun h_26 => ?_) (fun h_27 => ?_)
                  · refine ge_run (pc' := 95) (L' := [.ref 1638, .int v_14]) (S' := [.int (13 : Int32), .ref 1638]) 1 rfl ?_
                    exact ge_leaf rfl
                  · refine ge_run (pc' := 95) (L' := [.ref 1638, .int v_14]) (S' := [.int (12 : Int32), .ref 1638]) 2 rfl ?_
                    exact ge_leaf rfl
                · rintro y_25 _ rfl
                  try dsimp only
                  refine ge_run (pc' := 96) (L' := [.ref 1638, .int v_14]) (S' := [.int (0 : Int32), .int y_25, .ref 1638]) 1 rfl ?_
                  refine ge_cv rfl rfl rfl (t1638 s) rfl rfl rfl (D := 1) (by omega) (c_Mo_emits (n := n) (u := u) (t := t) (i := i_22) (r := r) s y_25 (0 : Int32)) ?_
                  rintro i_28 -
                  dsimp only [bkE, F_v1]
                  refine ge_run (pc' := 98) (L' := [.ref 1638, .int v_14]) (S' := [.int (1 : Int32)]) 1 rfl ?_
                  exact ge_retz rfl rfl (Or.inr rfl) (And.intro rfl trivial)
          · refine ge_run (pc' := 85) (L' := [.ref 1638, .int v_14]) (S' := [.ref 1638]) 1 rfl ?_
            refine ge_cv rfl rfl rfl (t1638 s) rfl rfl rfl (D := 8) (by omega) (c_Mo_readSum (n := n) (u := u) (t := t) (i := i_15) (r := r) s ) ?_
            rintro ⟨v_30, i_31⟩ -
            dsimp only [bkE, F_i1]
            refine ge_ne0 rfl (fun h_32 => ?_) (fun h_33 => ?_)
            · refine ge_run (pc' := 88) (L' := [.ref 1638, .int v_14]) (S' := [.int (0 : Int32)]) 1 rfl ?_
              exact ge_retz rfl rfl (Or.inl rfl) (And.intro rfl trivial)
            · refine ge_run (pc' := 91) (L' := [.ref 1638, .int v_14]) (S' := [.int v_14, .ref 1638]) 2 rfl ?_
              refine ge_bind (K1 := fun (q : Int32) e => e = .inl (95, [.ref 1638, .int v_14], [.int q, .ref 1638], (n, u, t, i_31, r))) ?_ ?_
              · refine ge_eq0 rfl (fun h_35 => ?_) (fun h_36 => ?_)
                · refine ge_run (pc' := 95) (L' := [.ref 1638, .int v_14]) (S' := [.int (13 : Int32), .ref 1638]) 1 rfl ?_
                  exact ge_leaf rfl
                · refine ge_run (pc' := 95) (L' := [.ref 1638, .int v_14]) (S' := [.int (12 : Int32), .ref 1638]) 2 rfl ?_
                  exact ge_leaf rfl
              · rintro y_34 _ rfl
                try dsimp only
                refine ge_run (pc' := 96) (L' := [.ref 1638, .int v_14]) (S' := [.int (0 : Int32), .int y_34, .ref 1638]) 1 rfl ?_
                refine ge_cv rfl rfl rfl (t1638 s) rfl rfl rfl (D := 1) (by omega) (c_Mo_emits (n := n) (u := u) (t := t) (i := i_31) (r := r) s y_34 (0 : Int32)) ?_
                rintro i_37 -
                dsimp only [bkE, F_v1]
                refine ge_run (pc' := 98) (L' := [.ref 1638, .int v_14]) (S' := [.int (1 : Int32)]) 1 rfl ?_
                exact ge_retz rfl rfl (Or.inr rfl) (And.intro rfl trivial)
      · refine ge_run (pc' := 68) (L' := [.ref 1638, uV]) (S' := [.int (1 : Int32)]) 1 rfl ?_
        exact ge_retz rfl rfl (Or.inr rfl) (And.intro rfl trivial)
    · refine ge_run (pc' := 36) (L' := [.ref 1638, uV]) (S' := [.ref 1638]) 1 rfl ?_
      refine ge_getI rfl (t1638 s) rfl ?_
      refine ge_run (pc' := 38) (L' := [.ref 1638, uV]) (S' := [.int (6 : Int32), .int (i_5 1638 13)]) 1 rfl ?_
      refine ge_ne rfl (fun h_40 => ?_) (fun h_41 => ?_)
      · refine ge_run (pc' := 40) (L' := [.ref 1638, uV]) (S' := [.int (0 : Int32)]) 1 rfl ?_
        exact ge_retz rfl rfl (Or.inl rfl) (And.intro rfl trivial)
      · refine ge_run (pc' := 43) (L' := [.ref 1638, uV]) (S' := [.ref 1638, .ref 1638]) 2 rfl ?_
        refine ge_getI rfl (t1638 s) rfl ?_
        refine ge_run (pc' := 46) (L' := [.ref 1638, uV]) (S' := [.int ((i_5 1638 13) + (1 : Int32)), .ref 1638]) 2 rfl ?_
        refine ge_putI rfl (t1638 s) (Nat.le_of_ble_eq_true rfl) rfl (fun i_42 => ?_)
        refine ge_run (pc' := 48) (L' := [.ref 1638, uV]) (S' := [.ref 1638]) 1 rfl ?_
        refine ge_cv rfl rfl rfl (t1638 s) rfl rfl rfl (D := DR) (by omega) (hR_Mo_readAtom (n := n) (u := u) (t := t) (i := i_42) (r := r) s ) ?_
        rintro ⟨v_43, i_44⟩ -
        dsimp only [bkE, F_i1]
        refine ge_ne0 rfl (fun h_45 => ?_) (fun h_46 => ?_)
        · refine ge_run (pc' := 51) (L' := [.ref 1638, uV]) (S' := [.int (0 : Int32)]) 1 rfl ?_
          exact ge_retz rfl rfl (Or.inl rfl) (And.intro rfl trivial)
        · refine ge_run (pc' := 54) (L' := [.ref 1638, uV]) (S' := [.ref 1638, .ref 1638]) 2 rfl ?_
          refine ge_getI rfl (t1638 s) rfl ?_
          refine ge_run (pc' := 57) (L' := [.ref 1638, uV]) (S' := [.int ((i_44 1638 13) - (1 : Int32)), .ref 1638]) 2 rfl ?_
          refine ge_putI rfl (t1638 s) (Nat.le_of_ble_eq_true rfl) rfl (fun i_47 => ?_)
          refine ge_run (pc' := 61) (L' := [.ref 1638, uV]) (S' := [.int (0 : Int32), .int (14 : Int32), .ref 1638]) 3 rfl ?_
          refine ge_cv rfl rfl rfl (t1638 s) rfl rfl rfl (D := 1) (by omega) (c_Mo_emits (n := n) (u := u) (t := t) (i := i_47) (r := r) s (14 : Int32) (0 : Int32)) ?_
          rintro i_48 -
          dsimp only [bkE, F_v1]
          refine ge_run (pc' := 63) (L' := [.ref 1638, uV]) (S' := [.int (1 : Int32)]) 1 rfl ?_
          exact ge_retz rfl rfl (Or.inr rfl) (And.intro rfl trivial)
  · refine ge_run (pc' := 5) (L' := [.ref 1638, uV]) (S' := [.ref 1638]) 1 rfl ?_
    refine ge_getI rfl (t1638 s) rfl ?_
    refine ge_run (pc' := 7) (L' := [.ref 1638, uV]) (S' := [.int (6 : Int32), .int (i_2 1638 13)]) 1 rfl ?_
    refine ge_ne rfl (fun h_50 => ?_) (fun h_51 => ?_)
    · refine ge_run (pc' := 9) (L' := [.ref 1638, uV]) (S' := [.int (0 : Int32)]) 1 rfl ?_
      exact ge_retz rfl rfl (Or.inl rfl) (And.intro rfl trivial)
    · refine ge_run (pc' := 12) (L' := [.ref 1638, uV]) (S' := [.ref 1638, .ref 1638]) 2 rfl ?_
      refine ge_getI rfl (t1638 s) rfl ?_
      refine ge_run (pc' := 15) (L' := [.ref 1638, uV]) (S' := [.int ((i_2 1638 13) + (1 : Int32)), .ref 1638]) 2 rfl ?_
      refine ge_putI rfl (t1638 s) (Nat.le_of_ble_eq_true rfl) rfl (fun i_52 => ?_)
      refine ge_run (pc' := 17) (L' := [.ref 1638, uV]) (S' := [.ref 1638]) 1 rfl ?_
      refine ge_cv rfl rfl rfl (t1638 s) rfl rfl rfl (D := DR) (by omega) (hR_Mo_readCond (n := n) (u := u) (t := t) (i := i_52) (r := r) s ) ?_
      rintro ⟨v_53, i_54⟩ -
      dsimp only [bkE, F_i1]
      refine ge_ne0 rfl (fun h_55 => ?_) (fun h_56 => ?_)
      · refine ge_run (pc' := 20) (L' := [.ref 1638, uV]) (S' := [.int (0 : Int32)]) 1 rfl ?_
        exact ge_retz rfl rfl (Or.inl rfl) (And.intro rfl trivial)
      · refine ge_run (pc' := 23) (L' := [.ref 1638, uV]) (S' := [.ref 1638, .ref 1638]) 2 rfl ?_
        refine ge_getI rfl (t1638 s) rfl ?_
        refine ge_run (pc' := 26) (L' := [.ref 1638, uV]) (S' := [.int ((i_54 1638 13) - (1 : Int32)), .ref 1638]) 2 rfl ?_
        refine ge_putI rfl (t1638 s) (Nat.le_of_ble_eq_true rfl) rfl (fun i_57 => ?_)
        refine ge_run (pc' := 29) (L' := [.ref 1638, uV]) (S' := [.int (41 : Int32), .ref 1638]) 2 rfl ?_
        refine ge_cv rfl rfl rfl (t1638 s) rfl rfl rfl (D := 3) (by omega) (c_Mo_sign (n := n) (u := u) (t := t) (i := i_57) (r := r) s (41 : Int32)) ?_
        rintro ⟨v_58, i_59⟩ -
        dsimp only [bkE, F_i1]
        exact ge_retZ rfl rfl (And.intro rfl trivial)
def fx_Mo : Nat → ((MT → MI → Option (Int32 × MI)) × (MT → MI → Option (Int32 × MI)) × (MT → MI → Option (Int32 × MI)))
  | 0 => ((fun _ _ => none), (fun _ _ => none), (fun _ _ => none))
  | k + 1 => (fb_Mo_readCond ((fx_Mo k).1) ((fx_Mo k).2.1) ((fx_Mo k).2.2), fb_Mo_readAllOf ((fx_Mo k).1) ((fx_Mo k).2.1) ((fx_Mo k).2.2), fb_Mo_readAtom ((fx_Mo k).1) ((fx_Mo k).2.1) ((fx_Mo k).2.2))
set_option maxHeartbeats 4000000 in
theorem cx_Mo : ∀ k : Nat, (∀ {n u : Nat} {t : MT} {i : MI} {r : MR} (s : Sh n t r) , Cn (k * 9) 252 [.ref 1638] (n, u, t, i, r) ((fx_Mo k).1 t i ) (F_i1 n u t r) PT) ∧ (∀ {n u : Nat} {t : MT} {i : MI} {r : MR} (s : Sh n t r) , Cn (k * 9) 251 [.ref 1638] (n, u, t, i, r) ((fx_Mo k).2.1 t i ) (F_i1 n u t r) PT) ∧ (∀ {n u : Nat} {t : MT} {i : MI} {r : MR} (s : Sh n t r) , Cn (k * 9) 250 [.ref 1638] (n, u, t, i, r) ((fx_Mo k).2.2 t i ) (F_i1 n u t r) PT)
  | 0 => ⟨(by intros; exact cn_none), (by intros; exact cn_none), (by intros; exact cn_none)⟩
  | k + 1 => by
    have ih := cx_Mo k
    have e : (k + 1) * 9 = k * 9 + 8 + 1 := by omega
    rw [e]
    exact ⟨cb_Mo_readCond ih.1 ih.2.1 ih.2.2, cb_Mo_readAllOf ih.1 ih.2.1 ih.2.2, cb_Mo_readAtom ih.1 ih.2.1 ih.2.2⟩
def f_Mo_readCond (t : MT) (i : MI)  : Option (Int32 × MI) := (fx_Mo 30).1 t i 
set_option maxHeartbeats 4000000 in
theorem c_Mo_readCond {n u : Nat} {t : MT} {i : MI} {r : MR} (s : Sh n t r)  : Cn 270 252 [.ref 1638] (n, u, t, i, r) (f_Mo_readCond t i ) (F_i1 n u t r) PT := (cx_Mo 30).1 s 
def f_Mo_readAllOf (t : MT) (i : MI)  : Option (Int32 × MI) := (fx_Mo 30).2.1 t i 
set_option maxHeartbeats 4000000 in
theorem c_Mo_readAllOf {n u : Nat} {t : MT} {i : MI} {r : MR} (s : Sh n t r)  : Cn 270 251 [.ref 1638] (n, u, t, i, r) (f_Mo_readAllOf t i ) (F_i1 n u t r) PT := (cx_Mo 30).2.1 s 
def f_Mo_readAtom (t : MT) (i : MI)  : Option (Int32 × MI) := (fx_Mo 30).2.2 t i 
set_option maxHeartbeats 4000000 in
theorem c_Mo_readAtom {n u : Nat} {t : MT} {i : MI} {r : MR} (s : Sh n t r)  : Cn 270 250 [.ref 1638] (n, u, t, i, r) (f_Mo_readAtom t i ) (F_i1 n u t r) PT := (cx_Mo 30).2.2 s 
def f_Mo_readLawLine (t : MT) (i : MI) (x1 : Int32) : Option (Int32 × MI) :=
  (f_Mo_isWord t i 166).bind (fun v_1 => (if v_1 = 0 then ((f_Mo_isWord t i 168).bind (fun v_4 => if v_4 = 0 then ((f_Mo_isWord t i 170).bind (fun v_6 => if v_6 = 0 then (some (-1 : Int32)) else (some (2 : Int32)))) else (some (1 : Int32)))) else (some (0 : Int32)) : Option (Int32)).bind (fun y_2 => grd ((1267 : Int32) + ((4 : Int32) * x1)) 2115 (bnd (wr i 1639 (ix ((1267 : Int32) + ((4 : Int32) * x1))) y_2) (fun i_13 => if (i_13 1639 (ix ((1267 : Int32) + ((4 : Int32) * x1)))) < 0 then (some ((0 : Int32), i_13)) else ((f_Mo_number i_13 (0 : Int32) (99 : Int32)).bind (fun (v_16, i_17) => grd (((1267 : Int32) + ((4 : Int32) * x1)) + (1 : Int32)) 2115 (bnd (wr i_17 1639 (ix (((1267 : Int32) + ((4 : Int32) * x1)) + (1 : Int32))) v_16) (fun i_20 => if (i_20 1639 (ix (((1267 : Int32) + ((4 : Int32) * x1)) + (1 : Int32)))) < 0 then (some ((0 : Int32), i_20)) else (grd (((1267 : Int32) + ((4 : Int32) * x1)) + (2 : Int32)) 2115 (bnd (wr i_20 1639 (ix (((1267 : Int32) + ((4 : Int32) * x1)) + (2 : Int32))) (i_20 1638 16)) (fun i_25 => bnd (wr i_25 1638 13 (0 : Int32)) (fun i_26 => (f_Mo_passes t i_26 172).bind (fun (v_27, i_28) => if v_27 = 0 then (grd (((1267 : Int32) + ((4 : Int32) * x1)) + (3 : Int32)) 2115 (bnd (wr i_28 1639 (ix (((1267 : Int32) + ((4 : Int32) * x1)) + (3 : Int32))) (i_28 1638 16)) (fun i_32 => some ((1 : Int32), i_32)))) else ((f_Mo_readCond t i_28).bind (fun (v_34, i_35) => if v_34 = 0 then (some ((0 : Int32), i_35)) else (grd (((1267 : Int32) + ((4 : Int32) * x1)) + (3 : Int32)) 2115 (bnd (wr i_35 1639 (ix (((1267 : Int32) + ((4 : Int32) * x1)) + (3 : Int32))) (i_35 1638 16)) (fun i_40 => some ((1 : Int32), i_40)))))))))))))))))))
set_option maxHeartbeats 4000000 in
theorem c_Mo_readLawLine {n u : Nat} {t : MT} {i : MI} {r : MR} (s : Sh n t r) (x1 : Int32) : Cn 271 253 [.ref 1638, .int x1] (n, u, t, i, r) (f_Mo_readLawLine t i x1) (F_i1 n u t r) PT := by
  refine cn_of (Y := K_Mo_readLawLine) (L0 := [.ref 1638, .int x1, uV]) rfl rfl rfl ?_
  intro d hd
  unfold f_Mo_readLawLine
  refine ge_run (pc' := 7) (L' := [.ref 1638, .int x1, .int ((1267 : Int32) + ((4 : Int32) * x1))]) (S' := [.ref 1638]) 7 rfl ?_
  refine ge_getR (b := 1639) rfl (t1638 s) rfl (r1638_1 s) (Nat.le_of_ble_eq_true rfl) ?_
  refine ge_run (pc' := 11) (L' := [.ref 1638, .int x1, .int ((1267 : Int32) + ((4 : Int32) * x1))]) (S' := [.ref 166, .ref 1638, .int ((1267 : Int32) + ((4 : Int32) * x1)), .ref 1639]) 3 rfl ?_
  refine ge_cv rfl rfl rfl (t1638 s) rfl rfl rfl (D := 5) (Nat.le_trans (by decide) hd) (c_Mo_isWord (n := n) (u := u) (t := t) (i := i) (r := r) s 166 (strAd 82)) ?_
  rintro v_1 -
  dsimp only [bkE, F_i0]
  refine ge_bind (K1 := fun (q : Int32) e => e = .inl (28, [.ref 1638, .int x1, .int ((1267 : Int32) + ((4 : Int32) * x1))], [.int q, .int ((1267 : Int32) + ((4 : Int32) * x1)), .ref 1639], (n, u, t, i, r))) ?_ ?_
  · refine ge_eq0 rfl (fun h_3 => ?_) (fun h_10 => ?_)
    · refine ge_run (pc' := 17) (L' := [.ref 1638, .int x1, .int ((1267 : Int32) + ((4 : Int32) * x1))]) (S' := [.ref 168, .ref 1638, .int ((1267 : Int32) + ((4 : Int32) * x1)), .ref 1639]) 2 rfl ?_
      refine ge_cv rfl rfl rfl (t1638 s) rfl rfl rfl (D := 5) (Nat.le_trans (by decide) hd) (c_Mo_isWord (n := n) (u := u) (t := t) (i := i) (r := r) s 168 (strAd 83)) ?_
      rintro v_4 -
      dsimp only [bkE, F_i0]
      refine ge_eq0 rfl (fun h_5 => ?_) (fun h_9 => ?_)
      · refine ge_run (pc' := 23) (L' := [.ref 1638, .int x1, .int ((1267 : Int32) + ((4 : Int32) * x1))]) (S' := [.ref 170, .ref 1638, .int ((1267 : Int32) + ((4 : Int32) * x1)), .ref 1639]) 2 rfl ?_
        refine ge_cv rfl rfl rfl (t1638 s) rfl rfl rfl (D := 5) (Nat.le_trans (by decide) hd) (c_Mo_isWord (n := n) (u := u) (t := t) (i := i) (r := r) s 170 (strAd 84)) ?_
        rintro v_6 -
        dsimp only [bkE, F_i0]
        refine ge_eq0 rfl (fun h_7 => ?_) (fun h_8 => ?_)
        · refine ge_run (pc' := 28) (L' := [.ref 1638, .int x1, .int ((1267 : Int32) + ((4 : Int32) * x1))]) (S' := [.int (-1 : Int32), .int ((1267 : Int32) + ((4 : Int32) * x1)), .ref 1639]) 1 rfl ?_
          exact ge_leaf rfl
        · refine ge_run (pc' := 28) (L' := [.ref 1638, .int x1, .int ((1267 : Int32) + ((4 : Int32) * x1))]) (S' := [.int (2 : Int32), .int ((1267 : Int32) + ((4 : Int32) * x1)), .ref 1639]) 2 rfl ?_
          exact ge_leaf rfl
      · refine ge_run (pc' := 28) (L' := [.ref 1638, .int x1, .int ((1267 : Int32) + ((4 : Int32) * x1))]) (S' := [.int (1 : Int32), .int ((1267 : Int32) + ((4 : Int32) * x1)), .ref 1639]) 2 rfl ?_
        exact ge_leaf rfl
    · refine ge_run (pc' := 28) (L' := [.ref 1638, .int x1, .int ((1267 : Int32) + ((4 : Int32) * x1))]) (S' := [.int (0 : Int32), .int ((1267 : Int32) + ((4 : Int32) * x1)), .ref 1639]) 2 rfl ?_
      exact ge_leaf rfl
  · rintro y_2 _ rfl
    try dsimp only
    refine ge_grd (fun g_11 g_12 => ?_)
    refine ge_iast (jn := (ix ((1267 : Int32) + ((4 : Int32) * x1)))) rfl (t1639 s) (Nat.le_of_ble_eq_true rfl) ⟨g_11, rfl⟩ g_12 (fun i_13 => ?_)
    refine ge_run (pc' := 30) (L' := [.ref 1638, .int x1, .int ((1267 : Int32) + ((4 : Int32) * x1))]) (S' := [.ref 1638]) 1 rfl ?_
    refine ge_getR (b := 1639) rfl (t1638 s) rfl (r1638_1 s) (Nat.le_of_ble_eq_true rfl) ?_
    refine ge_run (pc' := 32) (L' := [.ref 1638, .int x1, .int ((1267 : Int32) + ((4 : Int32) * x1))]) (S' := [.int ((1267 : Int32) + ((4 : Int32) * x1)), .ref 1639]) 1 rfl ?_
    refine ge_iald (jn := (ix ((1267 : Int32) + ((4 : Int32) * x1)))) rfl (t1639 s) ⟨g_11, rfl⟩ g_12 ?_
    refine ge_ge0 rfl (fun h_14 => ?_) (fun h_15 => ?_)
    · refine ge_run (pc' := 35) (L' := [.ref 1638, .int x1, .int ((1267 : Int32) + ((4 : Int32) * x1))]) (S' := [.int (0 : Int32)]) 1 rfl ?_
      exact ge_retz rfl rfl (Or.inl rfl) (And.intro rfl trivial)
    · refine ge_run (pc' := 37) (L' := [.ref 1638, .int x1, .int ((1267 : Int32) + ((4 : Int32) * x1))]) (S' := [.ref 1638]) 1 rfl ?_
      refine ge_getR (b := 1639) rfl (t1638 s) rfl (r1638_1 s) (Nat.le_of_ble_eq_true rfl) ?_
      refine ge_run (pc' := 44) (L' := [.ref 1638, .int x1, .int ((1267 : Int32) + ((4 : Int32) * x1))]) (S' := [.int (99 : Int32), .int (0 : Int32), .ref 1638, .int (((1267 : Int32) + ((4 : Int32) * x1)) + (1 : Int32)), .ref 1639]) 6 rfl ?_
      refine ge_cv rfl rfl rfl (t1638 s) rfl rfl rfl (D := 3) (Nat.le_trans (by decide) hd) (c_Mo_number (n := n) (u := u) (t := t) (i := i_13) (r := r) s (0 : Int32) (99 : Int32)) ?_
      rintro ⟨v_16, i_17⟩ -
      dsimp only [bkE, F_i1]
      refine ge_grd (fun g_18 g_19 => ?_)
      refine ge_iast (jn := (ix (((1267 : Int32) + ((4 : Int32) * x1)) + (1 : Int32)))) rfl (t1639 s) (Nat.le_of_ble_eq_true rfl) ⟨g_18, rfl⟩ g_19 (fun i_20 => ?_)
      refine ge_run (pc' := 47) (L' := [.ref 1638, .int x1, .int ((1267 : Int32) + ((4 : Int32) * x1))]) (S' := [.ref 1638]) 1 rfl ?_
      refine ge_getR (b := 1639) rfl (t1638 s) rfl (r1638_1 s) (Nat.le_of_ble_eq_true rfl) ?_
      refine ge_run (pc' := 51) (L' := [.ref 1638, .int x1, .int ((1267 : Int32) + ((4 : Int32) * x1))]) (S' := [.int (((1267 : Int32) + ((4 : Int32) * x1)) + (1 : Int32)), .ref 1639]) 3 rfl ?_
      refine ge_iald (jn := (ix (((1267 : Int32) + ((4 : Int32) * x1)) + (1 : Int32)))) rfl (t1639 s) ⟨g_18, rfl⟩ g_19 ?_
      refine ge_ge0 rfl (fun h_21 => ?_) (fun h_22 => ?_)
      · refine ge_run (pc' := 54) (L' := [.ref 1638, .int x1, .int ((1267 : Int32) + ((4 : Int32) * x1))]) (S' := [.int (0 : Int32)]) 1 rfl ?_
        exact ge_retz rfl rfl (Or.inl rfl) (And.intro rfl trivial)
      · refine ge_run (pc' := 56) (L' := [.ref 1638, .int x1, .int ((1267 : Int32) + ((4 : Int32) * x1))]) (S' := [.ref 1638]) 1 rfl ?_
        refine ge_getR (b := 1639) rfl (t1638 s) rfl (r1638_1 s) (Nat.le_of_ble_eq_true rfl) ?_
        refine ge_run (pc' := 61) (L' := [.ref 1638, .int x1, .int ((1267 : Int32) + ((4 : Int32) * x1))]) (S' := [.ref 1638, .int (((1267 : Int32) + ((4 : Int32) * x1)) + (2 : Int32)), .ref 1639]) 4 rfl ?_
        refine ge_getI rfl (t1638 s) rfl ?_
        refine ge_grd (fun g_23 g_24 => ?_)
        refine ge_iast (jn := (ix (((1267 : Int32) + ((4 : Int32) * x1)) + (2 : Int32)))) rfl (t1639 s) (Nat.le_of_ble_eq_true rfl) ⟨g_23, rfl⟩ g_24 (fun i_25 => ?_)
        refine ge_run (pc' := 65) (L' := [.ref 1638, .int x1, .int ((1267 : Int32) + ((4 : Int32) * x1))]) (S' := [.int (0 : Int32), .ref 1638]) 2 rfl ?_
        refine ge_putI rfl (t1638 s) (Nat.le_of_ble_eq_true rfl) rfl (fun i_26 => ?_)
        refine ge_run (pc' := 68) (L' := [.ref 1638, .int x1, .int ((1267 : Int32) + ((4 : Int32) * x1))]) (S' := [.ref 172, .ref 1638]) 2 rfl ?_
        refine ge_cv rfl rfl rfl (t1638 s) rfl rfl rfl (D := 6) (Nat.le_trans (by decide) hd) (c_Mo_passes (n := n) (u := u) (t := t) (i := i_26) (r := r) s 172 (strAd 85)) ?_
        rintro ⟨v_27, i_28⟩ -
        dsimp only [bkE, F_i1]
        refine ge_eq0 rfl (fun h_29 => ?_) (fun h_33 => ?_)
        · refine ge_run (pc' := 76) (L' := [.ref 1638, .int x1, .int ((1267 : Int32) + ((4 : Int32) * x1))]) (S' := [.ref 1638]) 1 rfl ?_
          refine ge_getR (b := 1639) rfl (t1638 s) rfl (r1638_1 s) (Nat.le_of_ble_eq_true rfl) ?_
          refine ge_run (pc' := 81) (L' := [.ref 1638, .int x1, .int ((1267 : Int32) + ((4 : Int32) * x1))]) (S' := [.ref 1638, .int (((1267 : Int32) + ((4 : Int32) * x1)) + (3 : Int32)), .ref 1639]) 4 rfl ?_
          refine ge_getI rfl (t1638 s) rfl ?_
          refine ge_grd (fun g_30 g_31 => ?_)
          refine ge_iast (jn := (ix (((1267 : Int32) + ((4 : Int32) * x1)) + (3 : Int32)))) rfl (t1639 s) (Nat.le_of_ble_eq_true rfl) ⟨g_30, rfl⟩ g_31 (fun i_32 => ?_)
          refine ge_run (pc' := 84) (L' := [.ref 1638, .int x1, .int ((1267 : Int32) + ((4 : Int32) * x1))]) (S' := [.int (1 : Int32)]) 1 rfl ?_
          exact ge_retz rfl rfl (Or.inr rfl) (And.intro rfl trivial)
        · refine ge_run (pc' := 71) (L' := [.ref 1638, .int x1, .int ((1267 : Int32) + ((4 : Int32) * x1))]) (S' := [.ref 1638]) 1 rfl ?_
          refine ge_cv rfl rfl rfl (t1638 s) rfl rfl rfl (D := 270) (Nat.le_trans (by decide) hd) (c_Mo_readCond (n := n) (u := u) (t := t) (i := i_28) (r := r) s ) ?_
          rintro ⟨v_34, i_35⟩ -
          dsimp only [bkE, F_i1]
          refine ge_ne0 rfl (fun h_36 => ?_) (fun h_37 => ?_)
          · refine ge_run (pc' := 74) (L' := [.ref 1638, .int x1, .int ((1267 : Int32) + ((4 : Int32) * x1))]) (S' := [.int (0 : Int32)]) 1 rfl ?_
            exact ge_retz rfl rfl (Or.inl rfl) (And.intro rfl trivial)
          · refine ge_run (pc' := 76) (L' := [.ref 1638, .int x1, .int ((1267 : Int32) + ((4 : Int32) * x1))]) (S' := [.ref 1638]) 1 rfl ?_
            refine ge_getR (b := 1639) rfl (t1638 s) rfl (r1638_1 s) (Nat.le_of_ble_eq_true rfl) ?_
            refine ge_run (pc' := 81) (L' := [.ref 1638, .int x1, .int ((1267 : Int32) + ((4 : Int32) * x1))]) (S' := [.ref 1638, .int (((1267 : Int32) + ((4 : Int32) * x1)) + (3 : Int32)), .ref 1639]) 4 rfl ?_
            refine ge_getI rfl (t1638 s) rfl ?_
            refine ge_grd (fun g_38 g_39 => ?_)
            refine ge_iast (jn := (ix (((1267 : Int32) + ((4 : Int32) * x1)) + (3 : Int32)))) rfl (t1639 s) (Nat.le_of_ble_eq_true rfl) ⟨g_38, rfl⟩ g_39 (fun i_40 => ?_)
            refine ge_run (pc' := 84) (L' := [.ref 1638, .int x1, .int ((1267 : Int32) + ((4 : Int32) * x1))]) (S' := [.int (1 : Int32)]) 1 rfl ?_
            exact ge_retz rfl rfl (Or.inr rfl) (And.intro rfl trivial)
def f_Mo_readLine (t : MT) (i : MI) (x1 : Int32) (x2 : Int32) : Option (Int32 × MI) :=
  (f_Mo_letters i).bind (fun i_1 => (if x1 = 0 then (some (12 : Int32)) else (some (14 : Int32)) : Option (Int32)).bind (fun y_2 => if x2 < y_2 then (if x1 = 0 then ((f_Mo_readLawLine t i_1 x2).bind (fun (v_7, i_8) => if v_7 = 0 then (some ((0 : Int32), i_8)) else (some ((1 : Int32), i_8)))) else ((f_Mo_readSeaLine t i_1).bind (fun (v_12, i_13) => if v_12 = 0 then (some ((0 : Int32), i_13)) else (some ((1 : Int32), i_13))))) else (some ((0 : Int32), i_1))))
set_option maxHeartbeats 4000000 in
theorem c_Mo_readLine {n u : Nat} {t : MT} {i : MI} {r : MR} (s : Sh n t r) (x1 : Int32) (x2 : Int32) : Cn 272 254 [.ref 1638, .int x1, .int x2] (n, u, t, i, r) (f_Mo_readLine t i x1 x2) (F_i1 n u t r) PT := by
  refine cn_of (Y := K_Mo_readLine) (L0 := [.ref 1638, .int x1, .int x2]) rfl rfl rfl ?_
  intro d hd
  unfold f_Mo_readLine
  refine ge_run (pc' := 1) (L' := [.ref 1638, .int x1, .int x2]) (S' := [.ref 1638]) 1 rfl ?_
  refine ge_cv rfl rfl rfl (t1638 s) rfl rfl rfl (D := 3) (Nat.le_trans (by decide) hd) (c_Mo_letters (n := n) (u := u) (t := t) (i := i) (r := r) s ) ?_
  rintro i_1 -
  dsimp only [bkE, F_v1]
  refine ge_run (pc' := 4) (L' := [.ref 1638, .int x1, .int x2]) (S' := [.int x1, .int x2]) 2 rfl ?_
  refine ge_bind (K1 := fun (q : Int32) e => e = .inl (8, [.ref 1638, .int x1, .int x2], [.int q, .int x2], (n, u, t, i_1, r))) ?_ ?_
  · refine ge_eq0 rfl (fun h_3 => ?_) (fun h_4 => ?_)
    · refine ge_run (pc' := 8) (L' := [.ref 1638, .int x1, .int x2]) (S' := [.int (12 : Int32), .int x2]) 1 rfl ?_
      exact ge_leaf rfl
    · refine ge_run (pc' := 8) (L' := [.ref 1638, .int x1, .int x2]) (S' := [.int (14 : Int32), .int x2]) 2 rfl ?_
      exact ge_leaf rfl
  · rintro y_2 _ rfl
    try dsimp only
    refine ge_ge rfl (fun h_5 => ?_) (fun h_16 => ?_)
    · refine ge_run (pc' := 10) (L' := [.ref 1638, .int x1, .int x2]) (S' := [.int x1]) 1 rfl ?_
      refine ge_eq0 rfl (fun h_6 => ?_) (fun h_11 => ?_)
      · refine ge_run (pc' := 17) (L' := [.ref 1638, .int x1, .int x2]) (S' := [.int x2, .ref 1638]) 2 rfl ?_
        refine ge_cv rfl rfl rfl (t1638 s) rfl rfl rfl (D := 271) (Nat.le_trans (by decide) hd) (c_Mo_readLawLine (n := n) (u := u) (t := t) (i := i_1) (r := r) s x2) ?_
        rintro ⟨v_7, i_8⟩ -
        dsimp only [bkE, F_i1]
        refine ge_eq0 rfl (fun h_9 => ?_) (fun h_10 => ?_)
        · refine ge_run (pc' := 22) (L' := [.ref 1638, .int x1, .int x2]) (S' := [.int (0 : Int32)]) 1 rfl ?_
          exact ge_retz rfl rfl (Or.inl rfl) (And.intro rfl trivial)
        · refine ge_run (pc' := 22) (L' := [.ref 1638, .int x1, .int x2]) (S' := [.int (1 : Int32)]) 2 rfl ?_
          exact ge_retz rfl rfl (Or.inr rfl) (And.intro rfl trivial)
      · refine ge_run (pc' := 12) (L' := [.ref 1638, .int x1, .int x2]) (S' := [.ref 1638]) 1 rfl ?_
        refine ge_cv rfl rfl rfl (t1638 s) rfl rfl rfl (D := 9) (Nat.le_trans (by decide) hd) (c_Mo_readSeaLine (n := n) (u := u) (t := t) (i := i_1) (r := r) s ) ?_
        rintro ⟨v_12, i_13⟩ -
        dsimp only [bkE, F_i1]
        refine ge_eq0 rfl (fun h_14 => ?_) (fun h_15 => ?_)
        · refine ge_run (pc' := 22) (L' := [.ref 1638, .int x1, .int x2]) (S' := [.int (0 : Int32)]) 1 rfl ?_
          exact ge_retz rfl rfl (Or.inl rfl) (And.intro rfl trivial)
        · refine ge_run (pc' := 22) (L' := [.ref 1638, .int x1, .int x2]) (S' := [.int (1 : Int32)]) 3 rfl ?_
          exact ge_retz rfl rfl (Or.inr rfl) (And.intro rfl trivial)
    · refine ge_run (pc' := 22) (L' := [.ref 1638, .int x1, .int x2]) (S' := [.int (0 : Int32)]) 1 rfl ?_
      exact ge_retz rfl rfl (Or.inl rfl) (And.intro rfl trivial)
def f_Mo_readAll (t : MT) (i : MI) (x1 : Int32) : Option (Int32 × MI) :=
  (f_Mo_uses i).bind (fun i_1 => bnd (wr i_1 1638 16 (0 : Int32)) (fun i_2 => (f_Mo_blanks i_2).bind (fun i_3 => if (i_3 1638 10) = (i_3 1638 11) then (some ((0 : Int32), i_3)) else (itr (σ := Int32 × MI) (ρ := Int32 × MI) (fun (x2_6, i_7) => (f_Mo_readLine t i_7 x1 x2_6).bind (fun (v_8, i_9) => if v_8 = 0 then (some (.inr (((-1 : Int32), i_9)))) else ((f_Mo_blanks i_9).bind (fun i_12 => if (i_12 1638 10) = (i_12 1638 11) then (some (.inr (((x2_6 + (1 : Int32)), i_12)))) else ((f_Mo_isAt i_12 (59 : Int32) (59 : Int32)).bind (fun v_15 => if v_15 = 0 then (some (.inr (((-1 : Int32), i_12)))) else (bnd (wr i_12 1638 10 ((i_12 1638 10) + (1 : Int32))) (fun i_18 => some (.inl ((x2_6 + (1 : Int32)), i_18)))))))))) 1000000 ((0 : Int32), i_3)))))
set_option maxHeartbeats 4000000 in
theorem c_Mo_readAll {n u : Nat} {t : MT} {i : MI} {r : MR} (s : Sh n t r) (x1 : Int32) : Cn 273 255 [.ref 1638, .int x1] (n, u, t, i, r) (f_Mo_readAll t i x1) (F_i1 n u t r) PT := by
  refine cn_of (Y := K_Mo_readAll) (L0 := [.ref 1638, .int x1, uV]) rfl rfl rfl ?_
  intro d hd
  unfold f_Mo_readAll
  refine ge_run (pc' := 1) (L' := [.ref 1638, .int x1, uV]) (S' := [.ref 1638]) 1 rfl ?_
  refine ge_cv rfl rfl rfl (t1638 s) rfl rfl rfl (D := 1) (Nat.le_trans (by decide) hd) (c_Mo_uses (n := n) (u := u) (t := t) (i := i) (r := r) s ) ?_
  rintro i_1 -
  dsimp only [bkE, F_v1]
  refine ge_run (pc' := 4) (L' := [.ref 1638, .int x1, uV]) (S' := [.int (0 : Int32), .ref 1638]) 2 rfl ?_
  refine ge_putI rfl (t1638 s) (Nat.le_of_ble_eq_true rfl) rfl (fun i_2 => ?_)
  refine ge_run (pc' := 6) (L' := [.ref 1638, .int x1, uV]) (S' := [.ref 1638]) 1 rfl ?_
  refine ge_cv rfl rfl rfl (t1638 s) rfl rfl rfl (D := 2) (Nat.le_trans (by decide) hd) (c_Mo_blanks (n := n) (u := u) (t := t) (i := i_2) (r := r) s ) ?_
  rintro i_3 -
  dsimp only [bkE, F_v1]
  refine ge_run (pc' := 8) (L' := [.ref 1638, .int x1, uV]) (S' := [.ref 1638]) 1 rfl ?_
  refine ge_getI rfl (t1638 s) rfl ?_
  refine ge_run (pc' := 10) (L' := [.ref 1638, .int x1, uV]) (S' := [.ref 1638, .int (i_3 1638 10)]) 1 rfl ?_
  refine ge_getI rfl (t1638 s) rfl ?_
  refine ge_ne rfl (fun h_4 => ?_) (fun h_5 => ?_)
  · refine ge_run (pc' := 13) (L' := [.ref 1638, .int x1, uV]) (S' := [.int (0 : Int32)]) 1 rfl ?_
    exact ge_ret rfl rfl (And.intro rfl trivial)
  · refine ge_run (pc' := 16) (L' := [.ref 1638, .int x1, .int (0 : Int32)]) (S' := []) 2 rfl ?_
    refine ge_itr (C := fun (q : Int32 × MI) e => e = .inl (16, [.ref 1638, .int x1, .int q.1], [], (n, u, t, q.2, r))) ?_ _ _ _ rfl
    rintro ⟨x2_6, i_7⟩ _ rfl
    try dsimp only
    refine ge_run (pc' := 19) (L' := [.ref 1638, .int x1, .int x2_6]) (S' := [.int x2_6, .int x1, .ref 1638]) 3 rfl ?_
    refine ge_cv rfl rfl rfl (t1638 s) rfl rfl rfl (D := 272) (Nat.le_trans (by decide) hd) (c_Mo_readLine (n := n) (u := u) (t := t) (i := i_7) (r := r) s x1 x2_6) ?_
    rintro ⟨v_8, i_9⟩ -
    dsimp only [bkE, F_i1]
    refine ge_ne0 rfl (fun h_10 => ?_) (fun h_11 => ?_)
    · refine ge_run (pc' := 22) (L' := [.ref 1638, .int x1, .int x2_6]) (S' := [.int (-1 : Int32)]) 1 rfl ?_
      exact ge_ret rfl rfl (And.intro rfl trivial)
    · refine ge_run (pc' := 24) (L' := [.ref 1638, .int x1, .int x2_6]) (S' := [.ref 1638]) 1 rfl ?_
      refine ge_cv rfl rfl rfl (t1638 s) rfl rfl rfl (D := 2) (Nat.le_trans (by decide) hd) (c_Mo_blanks (n := n) (u := u) (t := t) (i := i_9) (r := r) s ) ?_
      rintro i_12 -
      dsimp only [bkE, F_v1]
      refine ge_run (pc' := 26) (L' := [.ref 1638, .int x1, .int x2_6]) (S' := [.ref 1638]) 1 rfl ?_
      refine ge_getI rfl (t1638 s) rfl ?_
      refine ge_run (pc' := 28) (L' := [.ref 1638, .int x1, .int x2_6]) (S' := [.ref 1638, .int (i_12 1638 10)]) 1 rfl ?_
      refine ge_getI rfl (t1638 s) rfl ?_
      refine ge_ne rfl (fun h_13 => ?_) (fun h_14 => ?_)
      · refine ge_run (pc' := 33) (L' := [.ref 1638, .int x1, .int x2_6]) (S' := [.int (x2_6 + (1 : Int32))]) 3 rfl ?_
        exact ge_ret rfl rfl (And.intro rfl trivial)
      · refine ge_run (pc' := 37) (L' := [.ref 1638, .int x1, .int x2_6]) (S' := [.int (59 : Int32), .int (59 : Int32), .ref 1638]) 3 rfl ?_
        refine ge_cv rfl rfl rfl (t1638 s) rfl rfl rfl (D := 1) (Nat.le_trans (by decide) hd) (c_Mo_isAt (n := n) (u := u) (t := t) (i := i_12) (r := r) s (59 : Int32) (59 : Int32)) ?_
        rintro v_15 -
        dsimp only [bkE, F_i0]
        refine ge_ne0 rfl (fun h_16 => ?_) (fun h_17 => ?_)
        · refine ge_run (pc' := 40) (L' := [.ref 1638, .int x1, .int x2_6]) (S' := [.int (-1 : Int32)]) 1 rfl ?_
          exact ge_ret rfl rfl (And.intro rfl trivial)
        · refine ge_run (pc' := 43) (L' := [.ref 1638, .int x1, .int x2_6]) (S' := [.ref 1638, .ref 1638]) 2 rfl ?_
          refine ge_getI rfl (t1638 s) rfl ?_
          refine ge_run (pc' := 46) (L' := [.ref 1638, .int x1, .int x2_6]) (S' := [.int ((i_12 1638 10) + (1 : Int32)), .ref 1638]) 2 rfl ?_
          refine ge_putI rfl (t1638 s) (Nat.le_of_ble_eq_true rfl) rfl (fun i_18 => ?_)
          refine ge_run (pc' := 16) (L' := [.ref 1638, .int x1, .int (x2_6 + (1 : Int32))]) (S' := []) 2 rfl ?_
          exact ge_leaf (K := kX _ _) rfl
def f_Mo_waters (t : MT) (i : MI) : Option (Int32 × MI) :=
  (itr (σ := Int32 × MI) (ρ := MI) (fun (x1_1, i_2) => if x1_1 < (1266 : Int32) then (grd x1_1 2115 (grd x1_1 1266 (bnd (wr i_2 1641 (ix x1_1) (i_2 1639 (ix x1_1))) (fun i_10 => some (.inl ((x1_1 + (1 : Int32)), i_10)))))) else (some (.inr i_2))) 1000000 ((0 : Int32), i)).bind (fun i_3 => (f_Mo_readAll t i_3 (1 : Int32)).bind (fun (v_12, i_13) => (if v_12 < 0 then (some (i_13 1638 12)) else (some (-1 : Int32)) : Option (Int32)).bind (fun y_14 => bnd (wr i_13 1638 14 y_14) (fun i_17 => (if v_12 < 0 then (some (1 : Int32)) else (some (0 : Int32)) : Option (Int32)).bind (fun y_18 => (f_Mo_throwsIf i_17 y_18 (1 : Int32)).bind (fun (v_21, i_22) => if v_21 = 0 then ((if (i_22 1639 4) = (12 : Int32) then (some (1 : Int32)) else (some (0 : Int32)) : Option (Int32)).bind (fun y_24 => (f_Mo_throwsIf i_22 y_24 (2 : Int32)).bind (fun (v_27, i_28) => if v_27 = 0 then (bnd (wr i_28 1639 4 ((i_28 1639 4) + (1 : Int32))) (fun i_30 => bnd (wr i_30 1638 7 (0 : Int32)) (fun i_31 => some ((i_31 1639 4), i_31)))) else ((itr (σ := Int32 × MI) (ρ := MI) (fun (x2_33, i_34) => if x2_33 < (1266 : Int32) then (grd x2_33 1266 (grd x2_33 2115 (bnd (wr i_34 1639 (ix x2_33) (i_34 1641 (ix x2_33))) (fun i_42 => some (.inl ((x2_33 + (1 : Int32)), i_42)))))) else (some (.inr i_34))) 1000000 ((0 : Int32), i_28)).bind (fun i_35 => some ((0 : Int32), i_35)))))) else ((itr (σ := Int32 × MI) (ρ := MI) (fun (x2_45, i_46) => if x2_45 < (1266 : Int32) then (grd x2_45 1266 (grd x2_45 2115 (bnd (wr i_46 1639 (ix x2_45) (i_46 1641 (ix x2_45))) (fun i_54 => some (.inl ((x2_45 + (1 : Int32)), i_54)))))) else (some (.inr i_46))) 1000000 ((0 : Int32), i_22)).bind (fun i_47 => some ((0 : Int32), i_47)))))))))
set_option maxHeartbeats 4000000 in
theorem c_Mo_waters {n u : Nat} {t : MT} {i : MI} {r : MR} (s : Sh n t r)  : Cn 274 256 [.ref 1638] (n, u, t, i, r) (f_Mo_waters t i ) (F_i1 n u t r) PT := by
  refine cn_of (Y := K_Mo_waters) (L0 := [.ref 1638, uV, uV]) rfl rfl rfl ?_
  intro d hd
  unfold f_Mo_waters
  refine ge_run (pc' := 2) (L' := [.ref 1638, .int (0 : Int32), uV]) (S' := []) 2 rfl ?_
  refine ge_bind (K1 := fun (q : MI) e => ∃ w_4 : Value, e = .inl (15, [.ref 1638, w_4, uV], [], (n, u, t, q, r))) (ge_itr (C := fun (q : Int32 × MI) e => e = .inl (2, [.ref 1638, .int q.1, uV], [], (n, u, t, q.2, r))) ?_ _ _ _ rfl) ?_
  · rintro ⟨x1_1, i_2⟩ _ rfl
    try dsimp only
    refine ge_run (pc' := 4) (L' := [.ref 1638, .int x1_1, uV]) (S' := [.int (1266 : Int32), .int x1_1]) 2 rfl ?_
    refine ge_ge rfl (fun h_5 => ?_) (fun h_11 => ?_)
    · refine ge_run (pc' := 6) (L' := [.ref 1638, .int x1_1, uV]) (S' := [.ref 1638]) 1 rfl ?_
      refine ge_getR (b := 1641) rfl (t1638 s) rfl (r1638_3 s) (Nat.le_of_ble_eq_true rfl) ?_
      refine ge_run (pc' := 9) (L' := [.ref 1638, .int x1_1, uV]) (S' := [.ref 1638, .int x1_1, .ref 1641]) 2 rfl ?_
      refine ge_getR (b := 1639) rfl (t1638 s) rfl (r1638_1 s) (Nat.le_of_ble_eq_true rfl) ?_
      refine ge_run (pc' := 11) (L' := [.ref 1638, .int x1_1, uV]) (S' := [.int x1_1, .ref 1639, .int x1_1, .ref 1641]) 1 rfl ?_
      refine ge_grd (fun g_6 g_7 => ?_)
      refine ge_iald (jn := (ix x1_1)) rfl (t1639 s) ⟨g_6, rfl⟩ g_7 ?_
      refine ge_grd (fun g_8 g_9 => ?_)
      refine ge_iast (jn := (ix x1_1)) rfl (t1641 s) (Nat.le_of_ble_eq_true rfl) ⟨g_8, rfl⟩ g_9 (fun i_10 => ?_)
      refine ge_run (pc' := 2) (L' := [.ref 1638, .int (x1_1 + (1 : Int32)), uV]) (S' := []) 2 rfl ?_
      exact ge_leaf (K := kX _ _) rfl
    · exact ge_leaf (K := kX _ _) (Exists.intro _ rfl)
  · rintro i_3 _ ⟨w_4, rfl⟩
    try dsimp only
    refine ge_run (pc' := 17) (L' := [.ref 1638, w_4, uV]) (S' := [.int (1 : Int32), .ref 1638]) 2 rfl ?_
    refine ge_cv rfl rfl rfl (t1638 s) rfl rfl rfl (D := 273) (Nat.le_trans (by decide) hd) (c_Mo_readAll (n := n) (u := u) (t := t) (i := i_3) (r := r) s (1 : Int32)) ?_
    rintro ⟨v_12, i_13⟩ -
    dsimp only [bkE, F_i1]
    refine ge_run (pc' := 21) (L' := [.ref 1638, .int v_12, uV]) (S' := [.int v_12, .ref 1638]) 3 rfl ?_
    refine ge_bind (K1 := fun (q : Int32) e => e = .inl (26, [.ref 1638, .int v_12, uV], [.int q, .ref 1638], (n, u, t, i_13, r))) ?_ ?_
    · refine ge_ge0 rfl (fun h_15 => ?_) (fun h_16 => ?_)
      · refine ge_run (pc' := 23) (L' := [.ref 1638, .int v_12, uV]) (S' := [.ref 1638, .ref 1638]) 1 rfl ?_
        refine ge_getI rfl (t1638 s) rfl ?_
        refine ge_run (pc' := 26) (L' := [.ref 1638, .int v_12, uV]) (S' := [.int (i_13 1638 12), .ref 1638]) 1 rfl ?_
        exact ge_leaf rfl
      · refine ge_run (pc' := 26) (L' := [.ref 1638, .int v_12, uV]) (S' := [.int (-1 : Int32), .ref 1638]) 1 rfl ?_
        exact ge_leaf rfl
    · rintro y_14 _ rfl
      try dsimp only
      refine ge_putI rfl (t1638 s) (Nat.le_of_ble_eq_true rfl) rfl (fun i_17 => ?_)
      refine ge_run (pc' := 29) (L' := [.ref 1638, .int v_12, uV]) (S' := [.int v_12, .ref 1638]) 2 rfl ?_
      refine ge_bind (K1 := fun (q : Int32) e => e = .inl (33, [.ref 1638, .int v_12, uV], [.int q, .ref 1638], (n, u, t, i_17, r))) ?_ ?_
      · refine ge_ge0 rfl (fun h_19 => ?_) (fun h_20 => ?_)
        · refine ge_run (pc' := 33) (L' := [.ref 1638, .int v_12, uV]) (S' := [.int (1 : Int32), .ref 1638]) 2 rfl ?_
          exact ge_leaf rfl
        · refine ge_run (pc' := 33) (L' := [.ref 1638, .int v_12, uV]) (S' := [.int (0 : Int32), .ref 1638]) 1 rfl ?_
          exact ge_leaf rfl
      · rintro y_18 _ rfl
        try dsimp only
        refine ge_run (pc' := 34) (L' := [.ref 1638, .int v_12, uV]) (S' := [.int (1 : Int32), .int y_18, .ref 1638]) 1 rfl ?_
        refine ge_cv rfl rfl rfl (t1638 s) rfl rfl rfl (D := 1) (Nat.le_trans (by decide) hd) (c_Mo_throwsIf (n := n) (u := u) (t := t) (i := i_17) (r := r) s y_18 (1 : Int32)) ?_
        rintro ⟨v_21, i_22⟩ -
        dsimp only [bkE, F_i1]
        refine ge_ne0 rfl (fun h_23 => ?_) (fun h_44 => ?_)
        · refine ge_run (pc' := 38) (L' := [.ref 1638, .int v_12, uV]) (S' := [.ref 1638, .ref 1638]) 2 rfl ?_
          refine ge_getR (b := 1639) rfl (t1638 s) rfl (r1638_1 s) (Nat.le_of_ble_eq_true rfl) ?_
          refine ge_run (pc' := 40) (L' := [.ref 1638, .int v_12, uV]) (S' := [.int (4 : Int32), .ref 1639, .ref 1638]) 1 rfl ?_
          refine ge_iald (jn := 4) rfl (t1639 s) lk4 (by decide) ?_
          refine ge_run (pc' := 42) (L' := [.ref 1638, .int v_12, uV]) (S' := [.int (12 : Int32), .int (i_22 1639 4), .ref 1638]) 1 rfl ?_
          refine ge_bind (K1 := fun (q : Int32) e => e = .inl (46, [.ref 1638, .int v_12, uV], [.int q, .ref 1638], (n, u, t, i_22, r))) ?_ ?_
          · refine ge_ne rfl (fun h_25 => ?_) (fun h_26 => ?_)
            · refine ge_run (pc' := 46) (L' := [.ref 1638, .int v_12, uV]) (S' := [.int (1 : Int32), .ref 1638]) 2 rfl ?_
              exact ge_leaf rfl
            · refine ge_run (pc' := 46) (L' := [.ref 1638, .int v_12, uV]) (S' := [.int (0 : Int32), .ref 1638]) 1 rfl ?_
              exact ge_leaf rfl
          · rintro y_24 _ rfl
            try dsimp only
            refine ge_run (pc' := 47) (L' := [.ref 1638, .int v_12, uV]) (S' := [.int (2 : Int32), .int y_24, .ref 1638]) 1 rfl ?_
            refine ge_cv rfl rfl rfl (t1638 s) rfl rfl rfl (D := 1) (Nat.le_trans (by decide) hd) (c_Mo_throwsIf (n := n) (u := u) (t := t) (i := i_22) (r := r) s y_24 (2 : Int32)) ?_
            rintro ⟨v_27, i_28⟩ -
            dsimp only [bkE, F_i1]
            refine ge_eq0 rfl (fun h_29 => ?_) (fun h_32 => ?_)
            · refine ge_run (pc' := 67) (L' := [.ref 1638, .int v_12, uV]) (S' := [.ref 1638]) 1 rfl ?_
              refine ge_getR (b := 1639) rfl (t1638 s) rfl (r1638_1 s) (Nat.le_of_ble_eq_true rfl) ?_
              refine ge_run (pc' := 70) (L' := [.ref 1638, .int v_12, uV]) (S' := [.int (4 : Int32), .ref 1639, .int (4 : Int32), .ref 1639]) 2 rfl ?_
              refine ge_iald (jn := 4) rfl (t1639 s) lk4 (by decide) ?_
              refine ge_run (pc' := 73) (L' := [.ref 1638, .int v_12, uV]) (S' := [.int ((i_28 1639 4) + (1 : Int32)), .int (4 : Int32), .ref 1639]) 2 rfl ?_
              refine ge_iast (jn := 4) rfl (t1639 s) (Nat.le_of_ble_eq_true rfl) lk4 (by decide) (fun i_30 => ?_)
              refine ge_run (pc' := 76) (L' := [.ref 1638, .int v_12, uV]) (S' := [.int (0 : Int32), .ref 1638]) 2 rfl ?_
              refine ge_putI rfl (t1638 s) (Nat.le_of_ble_eq_true rfl) rfl (fun i_31 => ?_)
              refine ge_run (pc' := 78) (L' := [.ref 1638, .int v_12, uV]) (S' := [.ref 1638]) 1 rfl ?_
              refine ge_getR (b := 1639) rfl (t1638 s) rfl (r1638_1 s) (Nat.le_of_ble_eq_true rfl) ?_
              refine ge_run (pc' := 80) (L' := [.ref 1638, .int v_12, uV]) (S' := [.int (4 : Int32), .ref 1639]) 1 rfl ?_
              refine ge_iald (jn := 4) rfl (t1639 s) lk4 (by decide) ?_
              exact ge_ret rfl rfl (And.intro rfl trivial)
            · refine ge_run (pc' := 51) (L' := [.ref 1638, .int v_12, .int (0 : Int32)]) (S' := []) 2 rfl ?_
              refine ge_bind (K1 := fun (q : MI) e => ∃ w_36 : Value, e = .inl (64, [.ref 1638, .int v_12, w_36], [], (n, u, t, q, r))) (ge_itr (C := fun (q : Int32 × MI) e => e = .inl (51, [.ref 1638, .int v_12, .int q.1], [], (n, u, t, q.2, r))) ?_ _ _ _ rfl) ?_
              · rintro ⟨x2_33, i_34⟩ _ rfl
                try dsimp only
                refine ge_run (pc' := 53) (L' := [.ref 1638, .int v_12, .int x2_33]) (S' := [.int (1266 : Int32), .int x2_33]) 2 rfl ?_
                refine ge_ge rfl (fun h_37 => ?_) (fun h_43 => ?_)
                · refine ge_run (pc' := 55) (L' := [.ref 1638, .int v_12, .int x2_33]) (S' := [.ref 1638]) 1 rfl ?_
                  refine ge_getR (b := 1639) rfl (t1638 s) rfl (r1638_1 s) (Nat.le_of_ble_eq_true rfl) ?_
                  refine ge_run (pc' := 58) (L' := [.ref 1638, .int v_12, .int x2_33]) (S' := [.ref 1638, .int x2_33, .ref 1639]) 2 rfl ?_
                  refine ge_getR (b := 1641) rfl (t1638 s) rfl (r1638_3 s) (Nat.le_of_ble_eq_true rfl) ?_
                  refine ge_run (pc' := 60) (L' := [.ref 1638, .int v_12, .int x2_33]) (S' := [.int x2_33, .ref 1641, .int x2_33, .ref 1639]) 1 rfl ?_
                  refine ge_grd (fun g_38 g_39 => ?_)
                  refine ge_iald (jn := (ix x2_33)) rfl (t1641 s) ⟨g_38, rfl⟩ g_39 ?_
                  refine ge_grd (fun g_40 g_41 => ?_)
                  refine ge_iast (jn := (ix x2_33)) rfl (t1639 s) (Nat.le_of_ble_eq_true rfl) ⟨g_40, rfl⟩ g_41 (fun i_42 => ?_)
                  refine ge_run (pc' := 51) (L' := [.ref 1638, .int v_12, .int (x2_33 + (1 : Int32))]) (S' := []) 2 rfl ?_
                  exact ge_leaf (K := kX _ _) rfl
                · exact ge_leaf (K := kX _ _) (Exists.intro _ rfl)
              · rintro i_35 _ ⟨w_36, rfl⟩
                try dsimp only
                refine ge_run (pc' := 65) (L' := [.ref 1638, .int v_12, w_36]) (S' := [.int (0 : Int32)]) 1 rfl ?_
                exact ge_ret rfl rfl (And.intro rfl trivial)
        · refine ge_run (pc' := 51) (L' := [.ref 1638, .int v_12, .int (0 : Int32)]) (S' := []) 2 rfl ?_
          refine ge_bind (K1 := fun (q : MI) e => ∃ w_48 : Value, e = .inl (64, [.ref 1638, .int v_12, w_48], [], (n, u, t, q, r))) (ge_itr (C := fun (q : Int32 × MI) e => e = .inl (51, [.ref 1638, .int v_12, .int q.1], [], (n, u, t, q.2, r))) ?_ _ _ _ rfl) ?_
          · rintro ⟨x2_45, i_46⟩ _ rfl
            try dsimp only
            refine ge_run (pc' := 53) (L' := [.ref 1638, .int v_12, .int x2_45]) (S' := [.int (1266 : Int32), .int x2_45]) 2 rfl ?_
            refine ge_ge rfl (fun h_49 => ?_) (fun h_55 => ?_)
            · refine ge_run (pc' := 55) (L' := [.ref 1638, .int v_12, .int x2_45]) (S' := [.ref 1638]) 1 rfl ?_
              refine ge_getR (b := 1639) rfl (t1638 s) rfl (r1638_1 s) (Nat.le_of_ble_eq_true rfl) ?_
              refine ge_run (pc' := 58) (L' := [.ref 1638, .int v_12, .int x2_45]) (S' := [.ref 1638, .int x2_45, .ref 1639]) 2 rfl ?_
              refine ge_getR (b := 1641) rfl (t1638 s) rfl (r1638_3 s) (Nat.le_of_ble_eq_true rfl) ?_
              refine ge_run (pc' := 60) (L' := [.ref 1638, .int v_12, .int x2_45]) (S' := [.int x2_45, .ref 1641, .int x2_45, .ref 1639]) 1 rfl ?_
              refine ge_grd (fun g_50 g_51 => ?_)
              refine ge_iald (jn := (ix x2_45)) rfl (t1641 s) ⟨g_50, rfl⟩ g_51 ?_
              refine ge_grd (fun g_52 g_53 => ?_)
              refine ge_iast (jn := (ix x2_45)) rfl (t1639 s) (Nat.le_of_ble_eq_true rfl) ⟨g_52, rfl⟩ g_53 (fun i_54 => ?_)
              refine ge_run (pc' := 51) (L' := [.ref 1638, .int v_12, .int (x2_45 + (1 : Int32))]) (S' := []) 2 rfl ?_
              exact ge_leaf (K := kX _ _) rfl
            · exact ge_leaf (K := kX _ _) (Exists.intro _ rfl)
          · rintro i_47 _ ⟨w_48, rfl⟩
            try dsimp only
            refine ge_run (pc' := 65) (L' := [.ref 1638, .int v_12, w_48]) (S' := [.int (0 : Int32)]) 1 rfl ?_
            exact ge_ret rfl rfl (And.intro rfl trivial)
def f_Mo_law (t : MT) (i : MI) : Option (Int32 × MI) :=
  (f_Mo_readAll t i (0 : Int32)).bind (fun (v_1, i_2) => (if v_1 < 0 then (some (i_2 1638 12)) else (some (-1 : Int32)) : Option (Int32)).bind (fun y_3 => bnd (wr i_2 1638 14 y_3) (fun i_6 => (if v_1 < 0 then (some (1 : Int32)) else (some (0 : Int32)) : Option (Int32)).bind (fun y_7 => (f_Mo_throwsIf i_6 y_7 (1 : Int32)).bind (fun (v_10, i_11) => if v_10 = 0 then (bnd (wr i_11 1639 1266 v_1) (fun i_13 => (itr (σ := Int32 × MI) (ρ := MI) (fun (x2_14, i_15) => if x2_14 < (849 : Int32) then (grd ((1266 : Int32) + x2_14) 2115 (grd ((417 : Int32) + x2_14) 2115 (bnd (wr i_15 1639 (ix ((417 : Int32) + x2_14)) (i_15 1639 (ix ((1266 : Int32) + x2_14)))) (fun i_23 => some (.inl ((x2_14 + (1 : Int32)), i_23)))))) else (some (.inr i_15))) 1000000 ((0 : Int32), i_13)).bind (fun i_16 => bnd (wr i_16 1639 5 (1 : Int32)) (fun i_25 => bnd (wr i_25 1638 7 (0 : Int32)) (fun i_26 => some (v_1, i_26)))))) else (some ((0 : Int32), i_11)))))))
set_option maxHeartbeats 4000000 in
theorem c_Mo_law {n u : Nat} {t : MT} {i : MI} {r : MR} (s : Sh n t r)  : Cn 274 257 [.ref 1638] (n, u, t, i, r) (f_Mo_law t i ) (F_i1 n u t r) PT := by
  refine cn_of (Y := K_Mo_law) (L0 := [.ref 1638, uV, uV]) rfl rfl rfl ?_
  intro d hd
  unfold f_Mo_law
  refine ge_run (pc' := 2) (L' := [.ref 1638, uV, uV]) (S' := [.int (0 : Int32), .ref 1638]) 2 rfl ?_
  refine ge_cv rfl rfl rfl (t1638 s) rfl rfl rfl (D := 273) (Nat.le_trans (by decide) hd) (c_Mo_readAll (n := n) (u := u) (t := t) (i := i) (r := r) s (0 : Int32)) ?_
  rintro ⟨v_1, i_2⟩ -
  dsimp only [bkE, F_i1]
  refine ge_run (pc' := 6) (L' := [.ref 1638, .int v_1, uV]) (S' := [.int v_1, .ref 1638]) 3 rfl ?_
  refine ge_bind (K1 := fun (q : Int32) e => e = .inl (11, [.ref 1638, .int v_1, uV], [.int q, .ref 1638], (n, u, t, i_2, r))) ?_ ?_
  · refine ge_ge0 rfl (fun h_4 => ?_) (fun h_5 => ?_)
    · refine ge_run (pc' := 8) (L' := [.ref 1638, .int v_1, uV]) (S' := [.ref 1638, .ref 1638]) 1 rfl ?_
      refine ge_getI rfl (t1638 s) rfl ?_
      refine ge_run (pc' := 11) (L' := [.ref 1638, .int v_1, uV]) (S' := [.int (i_2 1638 12), .ref 1638]) 1 rfl ?_
      exact ge_leaf rfl
    · refine ge_run (pc' := 11) (L' := [.ref 1638, .int v_1, uV]) (S' := [.int (-1 : Int32), .ref 1638]) 1 rfl ?_
      exact ge_leaf rfl
  · rintro y_3 _ rfl
    try dsimp only
    refine ge_putI rfl (t1638 s) (Nat.le_of_ble_eq_true rfl) rfl (fun i_6 => ?_)
    refine ge_run (pc' := 14) (L' := [.ref 1638, .int v_1, uV]) (S' := [.int v_1, .ref 1638]) 2 rfl ?_
    refine ge_bind (K1 := fun (q : Int32) e => e = .inl (18, [.ref 1638, .int v_1, uV], [.int q, .ref 1638], (n, u, t, i_6, r))) ?_ ?_
    · refine ge_ge0 rfl (fun h_8 => ?_) (fun h_9 => ?_)
      · refine ge_run (pc' := 18) (L' := [.ref 1638, .int v_1, uV]) (S' := [.int (1 : Int32), .ref 1638]) 2 rfl ?_
        exact ge_leaf rfl
      · refine ge_run (pc' := 18) (L' := [.ref 1638, .int v_1, uV]) (S' := [.int (0 : Int32), .ref 1638]) 1 rfl ?_
        exact ge_leaf rfl
    · rintro y_7 _ rfl
      try dsimp only
      refine ge_run (pc' := 19) (L' := [.ref 1638, .int v_1, uV]) (S' := [.int (1 : Int32), .int y_7, .ref 1638]) 1 rfl ?_
      refine ge_cv rfl rfl rfl (t1638 s) rfl rfl rfl (D := 1) (Nat.le_trans (by decide) hd) (c_Mo_throwsIf (n := n) (u := u) (t := t) (i := i_6) (r := r) s y_7 (1 : Int32)) ?_
      rintro ⟨v_10, i_11⟩ -
      dsimp only [bkE, F_i1]
      refine ge_eq0 rfl (fun h_12 => ?_) (fun h_27 => ?_)
      · refine ge_run (pc' := 24) (L' := [.ref 1638, .int v_1, uV]) (S' := [.ref 1638]) 1 rfl ?_
        refine ge_getR (b := 1639) rfl (t1638 s) rfl (r1638_1 s) (Nat.le_of_ble_eq_true rfl) ?_
        refine ge_run (pc' := 27) (L' := [.ref 1638, .int v_1, uV]) (S' := [.int v_1, .int (1266 : Int32), .ref 1639]) 2 rfl ?_
        refine ge_iast (jn := 1266) rfl (t1639 s) (Nat.le_of_ble_eq_true rfl) lk1266 (by decide) (fun i_13 => ?_)
        refine ge_run (pc' := 30) (L' := [.ref 1638, .int v_1, .int (0 : Int32)]) (S' := []) 2 rfl ?_
        refine ge_bind (K1 := fun (q : MI) e => ∃ w_17 : Value, e = .inl (47, [.ref 1638, .int v_1, w_17], [], (n, u, t, q, r))) (ge_itr (C := fun (q : Int32 × MI) e => e = .inl (30, [.ref 1638, .int v_1, .int q.1], [], (n, u, t, q.2, r))) ?_ _ _ _ rfl) ?_
        · rintro ⟨x2_14, i_15⟩ _ rfl
          try dsimp only
          refine ge_run (pc' := 32) (L' := [.ref 1638, .int v_1, .int x2_14]) (S' := [.int (849 : Int32), .int x2_14]) 2 rfl ?_
          refine ge_ge rfl (fun h_18 => ?_) (fun h_24 => ?_)
          · refine ge_run (pc' := 34) (L' := [.ref 1638, .int v_1, .int x2_14]) (S' := [.ref 1638]) 1 rfl ?_
            refine ge_getR (b := 1639) rfl (t1638 s) rfl (r1638_1 s) (Nat.le_of_ble_eq_true rfl) ?_
            refine ge_run (pc' := 39) (L' := [.ref 1638, .int v_1, .int x2_14]) (S' := [.ref 1638, .int ((417 : Int32) + x2_14), .ref 1639]) 4 rfl ?_
            refine ge_getR (b := 1639) rfl (t1638 s) rfl (r1638_1 s) (Nat.le_of_ble_eq_true rfl) ?_
            refine ge_run (pc' := 43) (L' := [.ref 1638, .int v_1, .int x2_14]) (S' := [.int ((1266 : Int32) + x2_14), .ref 1639, .int ((417 : Int32) + x2_14), .ref 1639]) 3 rfl ?_
            refine ge_grd (fun g_19 g_20 => ?_)
            refine ge_iald (jn := (ix ((1266 : Int32) + x2_14))) rfl (t1639 s) ⟨g_19, rfl⟩ g_20 ?_
            refine ge_grd (fun g_21 g_22 => ?_)
            refine ge_iast (jn := (ix ((417 : Int32) + x2_14))) rfl (t1639 s) (Nat.le_of_ble_eq_true rfl) ⟨g_21, rfl⟩ g_22 (fun i_23 => ?_)
            refine ge_run (pc' := 30) (L' := [.ref 1638, .int v_1, .int (x2_14 + (1 : Int32))]) (S' := []) 2 rfl ?_
            exact ge_leaf (K := kX _ _) rfl
          · exact ge_leaf (K := kX _ _) (Exists.intro _ rfl)
        · rintro i_16 _ ⟨w_17, rfl⟩
          try dsimp only
          refine ge_run (pc' := 48) (L' := [.ref 1638, .int v_1, w_17]) (S' := [.ref 1638]) 1 rfl ?_
          refine ge_getR (b := 1639) rfl (t1638 s) rfl (r1638_1 s) (Nat.le_of_ble_eq_true rfl) ?_
          refine ge_run (pc' := 51) (L' := [.ref 1638, .int v_1, w_17]) (S' := [.int (1 : Int32), .int (5 : Int32), .ref 1639]) 2 rfl ?_
          refine ge_iast (jn := 5) rfl (t1639 s) (Nat.le_of_ble_eq_true rfl) lk5 (by decide) (fun i_25 => ?_)
          refine ge_run (pc' := 54) (L' := [.ref 1638, .int v_1, w_17]) (S' := [.int (0 : Int32), .ref 1638]) 2 rfl ?_
          refine ge_putI rfl (t1638 s) (Nat.le_of_ble_eq_true rfl) rfl (fun i_26 => ?_)
          refine ge_run (pc' := 56) (L' := [.ref 1638, .int v_1, w_17]) (S' := [.int v_1]) 1 rfl ?_
          exact ge_ret rfl rfl (And.intro rfl trivial)
      · refine ge_run (pc' := 22) (L' := [.ref 1638, .int v_1, uV]) (S' := [.int (0 : Int32)]) 1 rfl ?_
        exact ge_ret rfl rfl (And.intro rfl trivial)
def f_Mo_factOf (i : MI) (x1 : Int32) (x2 : Int32) (x3 : Int32) : Option (Int32) :=
  sw x1 0 [(some (x3)), ((f_Mo_of i x3 (0 : Int32)).bind (fun v_3 => some (v_3))), ((f_Mo_of i x3 (1 : Int32)).bind (fun v_5 => some (v_5))), ((f_Mo_of i x3 (2 : Int32)).bind (fun v_7 => some (v_7))), (some ((i 1639 6))), ((f_Mo_allThat i (2 : Int32)).bind (fun v_10 => (f_J_bitCount v_10).bind (fun v_11 => some (v_11)))), (some ((rm (i 1639 8) (100 : Int32)))), (if 0 < (i 1639 6) then (some ((1 : Int32))) else (some ((0 : Int32)))), ((f_Mo_of i x3 (3 : Int32)).bind (fun v_17 => if v_17 = (2 : Int32) then (some ((1 : Int32))) else (some ((0 : Int32))))), ((f_Mo_of i x3 (1 : Int32)).bind (fun v_21 => if v_21 < (7 : Int32) then (some ((0 : Int32))) else (some ((1 : Int32)))))] ((some (x2)))
set_option maxHeartbeats 4000000 in
theorem c_Mo_factOf {n u : Nat} {t : MT} {i : MI} {r : MR} (s : Sh n t r) (x1 : Int32) (x2 : Int32) (x3 : Int32) : Cn 4 258 [.ref 1638, .int x1, .int x2, .int x3] (n, u, t, i, r) (f_Mo_factOf i x1 x2 x3) (F_i0 n u t i r) PT := by
  refine cn_of (Y := K_Mo_factOf) (L0 := [.ref 1638, .int x1, .int x2, .int x3]) rfl rfl rfl ?_
  intro d hd
  unfold f_Mo_factOf
  refine ge_run (pc' := 1) (L' := [.ref 1638, .int x1, .int x2, .int x3]) (S' := [.int x1]) 1 rfl ?_
  refine ge_sw rfl rfl (And.intro ?_ (And.intro ?_ (And.intro ?_ (And.intro ?_ (And.intro ?_ (And.intro ?_ (And.intro ?_ (And.intro ?_ (And.intro ?_ (And.intro ?_ trivial)))))))))) ?_
  · refine ge_run (pc' := 3) (L' := [.ref 1638, .int x1, .int x2, .int x3]) (S' := [.int x3]) 1 rfl ?_
    exact ge_ret rfl rfl (And.intro rfl trivial)
  · refine ge_run (pc' := 7) (L' := [.ref 1638, .int x1, .int x2, .int x3]) (S' := [.int (0 : Int32), .int x3, .ref 1638]) 3 rfl ?_
    refine ge_cv rfl rfl rfl (t1638 s) rfl rfl rfl (D := 2) (Nat.le_trans (by decide) hd) (c_Mo_of (n := n) (u := u) (t := t) (i := i) (r := r) s x3 (0 : Int32)) ?_
    rintro v_3 -
    dsimp only [bkE, F_i0]
    exact ge_ret rfl rfl (And.intro rfl trivial)
  · refine ge_run (pc' := 12) (L' := [.ref 1638, .int x1, .int x2, .int x3]) (S' := [.int (1 : Int32), .int x3, .ref 1638]) 3 rfl ?_
    refine ge_cv rfl rfl rfl (t1638 s) rfl rfl rfl (D := 2) (Nat.le_trans (by decide) hd) (c_Mo_of (n := n) (u := u) (t := t) (i := i) (r := r) s x3 (1 : Int32)) ?_
    rintro v_5 -
    dsimp only [bkE, F_i0]
    exact ge_ret rfl rfl (And.intro rfl trivial)
  · refine ge_run (pc' := 17) (L' := [.ref 1638, .int x1, .int x2, .int x3]) (S' := [.int (2 : Int32), .int x3, .ref 1638]) 3 rfl ?_
    refine ge_cv rfl rfl rfl (t1638 s) rfl rfl rfl (D := 2) (Nat.le_trans (by decide) hd) (c_Mo_of (n := n) (u := u) (t := t) (i := i) (r := r) s x3 (2 : Int32)) ?_
    rintro v_7 -
    dsimp only [bkE, F_i0]
    exact ge_ret rfl rfl (And.intro rfl trivial)
  · refine ge_run (pc' := 20) (L' := [.ref 1638, .int x1, .int x2, .int x3]) (S' := [.ref 1638]) 1 rfl ?_
    refine ge_getR (b := 1639) rfl (t1638 s) rfl (r1638_1 s) (Nat.le_of_ble_eq_true rfl) ?_
    refine ge_run (pc' := 22) (L' := [.ref 1638, .int x1, .int x2, .int x3]) (S' := [.int (6 : Int32), .ref 1639]) 1 rfl ?_
    refine ge_iald (jn := 6) rfl (t1639 s) lk6 (by decide) ?_
    exact ge_ret rfl rfl (And.intro rfl trivial)
  · refine ge_run (pc' := 26) (L' := [.ref 1638, .int x1, .int x2, .int x3]) (S' := [.int (2 : Int32), .ref 1638]) 2 rfl ?_
    refine ge_cv rfl rfl rfl (t1638 s) rfl rfl rfl (D := 3) (Nat.le_trans (by decide) hd) (c_Mo_allThat (n := n) (u := u) (t := t) (i := i) (r := r) s (2 : Int32)) ?_
    rintro v_10 -
    dsimp only [bkE, F_i0]
    refine ge_cs rfl rfl rfl rfl rfl rfl (D := 1) (Nat.le_trans (by decide) hd) (c_J_bitCount (n := n) (u := u) (t := t) (i := i) (r := r) s v_10) ?_
    rintro v_11 -
    dsimp only [bkE, F_i0]
    exact ge_ret rfl rfl (And.intro rfl trivial)
  · refine ge_run (pc' := 30) (L' := [.ref 1638, .int x1, .int x2, .int x3]) (S' := [.ref 1638]) 1 rfl ?_
    refine ge_getR (b := 1639) rfl (t1638 s) rfl (r1638_1 s) (Nat.le_of_ble_eq_true rfl) ?_
    refine ge_run (pc' := 32) (L' := [.ref 1638, .int x1, .int x2, .int x3]) (S' := [.int (8 : Int32), .ref 1639]) 1 rfl ?_
    refine ge_iald (jn := 8) rfl (t1639 s) lk8 (by decide) ?_
    refine ge_run (pc' := 34) (L' := [.ref 1638, .int x1, .int x2, .int x3]) (S' := [.int (100 : Int32), .int (i 1639 8)]) 1 rfl ?_
    refine ge_rem rfl (by decide) ?_
    exact ge_ret rfl rfl (And.intro rfl trivial)
  · refine ge_run (pc' := 37) (L' := [.ref 1638, .int x1, .int x2, .int x3]) (S' := [.ref 1638]) 1 rfl ?_
    refine ge_getR (b := 1639) rfl (t1638 s) rfl (r1638_1 s) (Nat.le_of_ble_eq_true rfl) ?_
    refine ge_run (pc' := 39) (L' := [.ref 1638, .int x1, .int x2, .int x3]) (S' := [.int (6 : Int32), .ref 1639]) 1 rfl ?_
    refine ge_iald (jn := 6) rfl (t1639 s) lk6 (by decide) ?_
    refine ge_le0 rfl (fun h_14 => ?_) (fun h_15 => ?_)
    · refine ge_run (pc' := 44) (L' := [.ref 1638, .int x1, .int x2, .int x3]) (S' := [.int (1 : Int32)]) 2 rfl ?_
      exact ge_ret rfl rfl (And.intro rfl trivial)
    · refine ge_run (pc' := 44) (L' := [.ref 1638, .int x1, .int x2, .int x3]) (S' := [.int (0 : Int32)]) 1 rfl ?_
      exact ge_ret rfl rfl (And.intro rfl trivial)
  · refine ge_run (pc' := 48) (L' := [.ref 1638, .int x1, .int x2, .int x3]) (S' := [.int (3 : Int32), .int x3, .ref 1638]) 3 rfl ?_
    refine ge_cv rfl rfl rfl (t1638 s) rfl rfl rfl (D := 2) (Nat.le_trans (by decide) hd) (c_Mo_of (n := n) (u := u) (t := t) (i := i) (r := r) s x3 (3 : Int32)) ?_
    rintro v_17 -
    dsimp only [bkE, F_i0]
    refine ge_run (pc' := 50) (L' := [.ref 1638, .int x1, .int x2, .int x3]) (S' := [.int (2 : Int32), .int v_17]) 1 rfl ?_
    refine ge_ne rfl (fun h_18 => ?_) (fun h_19 => ?_)
    · refine ge_run (pc' := 54) (L' := [.ref 1638, .int x1, .int x2, .int x3]) (S' := [.int (1 : Int32)]) 2 rfl ?_
      exact ge_ret rfl rfl (And.intro rfl trivial)
    · refine ge_run (pc' := 54) (L' := [.ref 1638, .int x1, .int x2, .int x3]) (S' := [.int (0 : Int32)]) 1 rfl ?_
      exact ge_ret rfl rfl (And.intro rfl trivial)
  · refine ge_run (pc' := 58) (L' := [.ref 1638, .int x1, .int x2, .int x3]) (S' := [.int (1 : Int32), .int x3, .ref 1638]) 3 rfl ?_
    refine ge_cv rfl rfl rfl (t1638 s) rfl rfl rfl (D := 2) (Nat.le_trans (by decide) hd) (c_Mo_of (n := n) (u := u) (t := t) (i := i) (r := r) s x3 (1 : Int32)) ?_
    rintro v_21 -
    dsimp only [bkE, F_i0]
    refine ge_run (pc' := 60) (L' := [.ref 1638, .int x1, .int x2, .int x3]) (S' := [.int (7 : Int32), .int v_21]) 1 rfl ?_
    refine ge_lt rfl (fun h_22 => ?_) (fun h_23 => ?_)
    · refine ge_run (pc' := 64) (L' := [.ref 1638, .int x1, .int x2, .int x3]) (S' := [.int (0 : Int32)]) 1 rfl ?_
      exact ge_ret rfl rfl (And.intro rfl trivial)
    · refine ge_run (pc' := 64) (L' := [.ref 1638, .int x1, .int x2, .int x3]) (S' := [.int (1 : Int32)]) 2 rfl ?_
      exact ge_ret rfl rfl (And.intro rfl trivial)
  · refine ge_run (pc' := 66) (L' := [.ref 1638, .int x1, .int x2, .int x3]) (S' := [.int x2]) 1 rfl ?_
    exact ge_ret rfl rfl (And.intro rfl trivial)
def f_Mo_holdsLine (i : MI) (x1 : Int32) (x2 : Int32) : Option (Int32 × MI) :=
  grd (((418 : Int32) + ((4 : Int32) * x1)) + (2 : Int32)) 2115 ((itr (σ := Int32 × Int32 × MI) (ρ := Int32 × MI) (fun (x3_3, x5_4, i_5) => grd (((418 : Int32) + ((4 : Int32) * x1)) + (3 : Int32)) 2115 (if x5_4 < (i_5 1639 (ix (((418 : Int32) + ((4 : Int32) * x1)) + (3 : Int32)))) then (grd ((466 : Int32) + ((2 : Int32) * x5_4)) 2115 ((if (10 : Int32) < (i_5 1639 (ix ((466 : Int32) + ((2 : Int32) * x5_4)))) then (if (i_5 1639 (ix ((466 : Int32) + ((2 : Int32) * x5_4)))) = (14 : Int32) then (grd (x3_3 - (1 : Int32)) 400 (bnd (wr i_5 1646 (ix (x3_3 - (1 : Int32))) ((1 : Int32) - (i_5 1646 (ix (x3_3 - (1 : Int32)))))) (fun i_31 => some (x3_3, i_31)))) else (grd ((x3_3 + (-1 : Int32)) - (1 : Int32)) 400 (grd (x3_3 + (-1 : Int32)) 400 ((if (i_5 1639 (ix ((466 : Int32) + ((2 : Int32) * x5_4)))) = (12 : Int32) then (if (i_5 1646 (ix ((x3_3 + (-1 : Int32)) - (1 : Int32)))) < (i_5 1646 (ix (x3_3 + (-1 : Int32)))) then (some (1 : Int32)) else (some (0 : Int32))) else (if (i_5 1639 (ix ((466 : Int32) + ((2 : Int32) * x5_4)))) = (13 : Int32) then (if (i_5 1646 (ix (x3_3 + (-1 : Int32)))) < (i_5 1646 (ix ((x3_3 + (-1 : Int32)) - (1 : Int32)))) then (some (1 : Int32)) else (some (0 : Int32))) else (if (i_5 1639 (ix ((466 : Int32) + ((2 : Int32) * x5_4)))) = (15 : Int32) then (if ((i_5 1646 (ix ((x3_3 + (-1 : Int32)) - (1 : Int32)))) + (i_5 1646 (ix (x3_3 + (-1 : Int32))))) = (2 : Int32) then (some (1 : Int32)) else (some (0 : Int32))) else (if 0 < ((i_5 1646 (ix ((x3_3 + (-1 : Int32)) - (1 : Int32)))) + (i_5 1646 (ix (x3_3 + (-1 : Int32))))) then (some (1 : Int32)) else (some (0 : Int32))))) : Option (Int32)).bind (fun y_37 => (if (i_5 1639 (ix ((466 : Int32) + ((2 : Int32) * x5_4)))) = (11 : Int32) then (some ((i_5 1646 (ix ((x3_3 + (-1 : Int32)) - (1 : Int32)))) + (i_5 1646 (ix (x3_3 + (-1 : Int32)))))) else (if y_37 = 0 then (some (0 : Int32)) else (some (1 : Int32))) : Option (Int32)).bind (fun y_52 => bnd (wr i_5 1646 (ix ((x3_3 + (-1 : Int32)) - (1 : Int32))) y_52) (fun i_57 => some ((x3_3 + (-1 : Int32)), i_57)))))))) else (grd (((466 : Int32) + ((2 : Int32) * x5_4)) + (1 : Int32)) 2115 ((f_Mo_factOf i_5 (i_5 1639 (ix ((466 : Int32) + ((2 : Int32) * x5_4)))) (i_5 1639 (ix (((466 : Int32) + ((2 : Int32) * x5_4)) + (1 : Int32)))) x2).bind (fun v_61 => grd x3_3 400 (bnd (wr i_5 1646 (ix x3_3) v_61) (fun i_64 => some ((x3_3 + (1 : Int32)), i_64)))))) : Option (Int32 × MI)).bind (fun (x3_22, i_23) => some (.inl (x3_22, (x5_4 + (1 : Int32)), i_23))))) else (some (.inr (x3_3, i_5))))) 1000000 ((0 : Int32), (i 1639 (ix (((418 : Int32) + ((4 : Int32) * x1)) + (2 : Int32)))), i)).bind (fun (x3_10, i_11) => if x3_10 = 0 then (some ((1 : Int32), i_11)) else (if (i_11 1646 0) = (1 : Int32) then (some ((1 : Int32), i_11)) else (some ((0 : Int32), i_11)))))
set_option maxHeartbeats 4000000 in
theorem c_Mo_holdsLine {n u : Nat} {t : MT} {i : MI} {r : MR} (s : Sh n t r) (x1 : Int32) (x2 : Int32) : Cn 5 259 [.ref 1638, .int x1, .int x2] (n, u, t, i, r) (f_Mo_holdsLine i x1 x2) (F_i1 n u t r) PT := by
  refine cn_of (Y := K_Mo_holdsLine) (L0 := [.ref 1638, .int x1, .int x2, uV, uV, uV, uV, uV, uV, uV]) rfl rfl rfl ?_
  intro d hd
  unfold f_Mo_holdsLine
  refine ge_run (pc' := 9) (L' := [.ref 1638, .int x1, .int x2, .int (0 : Int32), .int ((418 : Int32) + ((4 : Int32) * x1)), uV, uV, uV, uV, uV]) (S' := [.ref 1638]) 9 rfl ?_
  refine ge_getR (b := 1639) rfl (t1638 s) rfl (r1638_1 s) (Nat.le_of_ble_eq_true rfl) ?_
  refine ge_run (pc' := 13) (L' := [.ref 1638, .int x1, .int x2, .int (0 : Int32), .int ((418 : Int32) + ((4 : Int32) * x1)), uV, uV, uV, uV, uV]) (S' := [.int (((418 : Int32) + ((4 : Int32) * x1)) + (2 : Int32)), .ref 1639]) 3 rfl ?_
  refine ge_grd (fun g_1 g_2 => ?_)
  refine ge_iald (jn := (ix (((418 : Int32) + ((4 : Int32) * x1)) + (2 : Int32)))) rfl (t1639 s) ⟨g_1, rfl⟩ g_2 ?_
  refine ge_run (pc' := 15) (L' := [.ref 1638, .int x1, .int x2, .int (0 : Int32), .int ((418 : Int32) + ((4 : Int32) * x1)), .int (i 1639 (ix (((418 : Int32) + ((4 : Int32) * x1)) + (2 : Int32)))), uV, uV, uV, uV]) (S' := []) 1 rfl ?_
  refine ge_bind (K1 := fun (q : Int32 × MI) e => ∃ w_12 w_13 w_14 w_15 w_16 : Value, e = .inl (146, [.ref 1638, .int x1, .int x2, .int q.1, .int ((418 : Int32) + ((4 : Int32) * x1)), w_12, w_13, w_14, w_15, w_16], [], (n, u, t, q.2, r))) (ge_itr (C := fun (q : Int32 × Int32 × MI) e => ∃ w_6 w_7 w_8 w_9 : Value, e = .inl (15, [.ref 1638, .int x1, .int x2, .int q.1, .int ((418 : Int32) + ((4 : Int32) * x1)), .int q.2.1, w_6, w_7, w_8, w_9], [], (n, u, t, q.2.2, r))) ?_ _ _ _ (Exists.intro _ (Exists.intro _ (Exists.intro _ (Exists.intro _ rfl))))) ?_
  · rintro ⟨x3_3, x5_4, i_5⟩ _ ⟨w_6, w_7, w_8, w_9, rfl⟩
    try dsimp only
    refine ge_run (pc' := 17) (L' := [.ref 1638, .int x1, .int x2, .int x3_3, .int ((418 : Int32) + ((4 : Int32) * x1)), .int x5_4, w_6, w_7, w_8, w_9]) (S' := [.ref 1638, .int x5_4]) 2 rfl ?_
    refine ge_getR (b := 1639) rfl (t1638 s) rfl (r1638_1 s) (Nat.le_of_ble_eq_true rfl) ?_
    refine ge_run (pc' := 21) (L' := [.ref 1638, .int x1, .int x2, .int x3_3, .int ((418 : Int32) + ((4 : Int32) * x1)), .int x5_4, w_6, w_7, w_8, w_9]) (S' := [.int (((418 : Int32) + ((4 : Int32) * x1)) + (3 : Int32)), .ref 1639, .int x5_4]) 3 rfl ?_
    refine ge_grd (fun g_17 g_18 => ?_)
    refine ge_iald (jn := (ix (((418 : Int32) + ((4 : Int32) * x1)) + (3 : Int32)))) rfl (t1639 s) ⟨g_17, rfl⟩ g_18 ?_
    refine ge_ge rfl (fun h_19 => ?_) (fun h_65 => ?_)
    · refine ge_run (pc' := 24) (L' := [.ref 1638, .int x1, .int x2, .int x3_3, .int ((418 : Int32) + ((4 : Int32) * x1)), .int x5_4, w_6, w_7, w_8, w_9]) (S' := [.ref 1638]) 1 rfl ?_
      refine ge_getR (b := 1639) rfl (t1638 s) rfl (r1638_1 s) (Nat.le_of_ble_eq_true rfl) ?_
      refine ge_run (pc' := 30) (L' := [.ref 1638, .int x1, .int x2, .int x3_3, .int ((418 : Int32) + ((4 : Int32) * x1)), .int x5_4, w_6, w_7, w_8, w_9]) (S' := [.int ((466 : Int32) + ((2 : Int32) * x5_4)), .ref 1639]) 5 rfl ?_
      refine ge_grd (fun g_20 g_21 => ?_)
      refine ge_iald (jn := (ix ((466 : Int32) + ((2 : Int32) * x5_4)))) rfl (t1639 s) ⟨g_20, rfl⟩ g_21 ?_
      refine ge_run (pc' := 34) (L' := [.ref 1638, .int x1, .int x2, .int x3_3, .int ((418 : Int32) + ((4 : Int32) * x1)), .int x5_4, .int (i_5 1639 (ix ((466 : Int32) + ((2 : Int32) * x5_4)))), w_7, w_8, w_9]) (S' := [.int (10 : Int32), .int (i_5 1639 (ix ((466 : Int32) + ((2 : Int32) * x5_4))))]) 3 rfl ?_
      refine ge_bind (K1 := fun (q : Int32 × MI) e => ∃ w_24 w_25 w_26 : Value, e = .inl (144, [.ref 1638, .int x1, .int x2, .int q.1, .int ((418 : Int32) + ((4 : Int32) * x1)), .int x5_4, .int (i_5 1639 (ix ((466 : Int32) + ((2 : Int32) * x5_4)))), w_24, w_25, w_26], [], (n, u, t, q.2, r))) ?_ ?_
      · refine ge_gt rfl (fun h_27 => ?_) (fun h_58 => ?_)
        · refine ge_run (pc' := 57) (L' := [.ref 1638, .int x1, .int x2, .int x3_3, .int ((418 : Int32) + ((4 : Int32) * x1)), .int x5_4, .int (i_5 1639 (ix ((466 : Int32) + ((2 : Int32) * x5_4)))), w_7, w_8, w_9]) (S' := [.int (14 : Int32), .int (i_5 1639 (ix ((466 : Int32) + ((2 : Int32) * x5_4))))]) 2 rfl ?_
          refine ge_ne rfl (fun h_28 => ?_) (fun h_32 => ?_)
          · refine ge_run (pc' := 59) (L' := [.ref 1638, .int x1, .int x2, .int x3_3, .int ((418 : Int32) + ((4 : Int32) * x1)), .int x5_4, .int (i_5 1639 (ix ((466 : Int32) + ((2 : Int32) * x5_4)))), w_7, w_8, w_9]) (S' := [.ref 1638]) 1 rfl ?_
            refine ge_getR (b := 1646) rfl (t1638 s) rfl (r1638_17 s) (Nat.le_of_ble_eq_true rfl) ?_
            refine ge_run (pc' := 65) (L' := [.ref 1638, .int x1, .int x2, .int x3_3, .int ((418 : Int32) + ((4 : Int32) * x1)), .int x5_4, .int (i_5 1639 (ix ((466 : Int32) + ((2 : Int32) * x5_4)))), w_7, w_8, w_9]) (S' := [.ref 1638, .int (1 : Int32), .int (x3_3 - (1 : Int32)), .ref 1646]) 5 rfl ?_
            refine ge_getR (b := 1646) rfl (t1638 s) rfl (r1638_17 s) (Nat.le_of_ble_eq_true rfl) ?_
            refine ge_run (pc' := 69) (L' := [.ref 1638, .int x1, .int x2, .int x3_3, .int ((418 : Int32) + ((4 : Int32) * x1)), .int x5_4, .int (i_5 1639 (ix ((466 : Int32) + ((2 : Int32) * x5_4)))), w_7, w_8, w_9]) (S' := [.int (x3_3 - (1 : Int32)), .ref 1646, .int (1 : Int32), .int (x3_3 - (1 : Int32)), .ref 1646]) 3 rfl ?_
            refine ge_grd (fun g_29 g_30 => ?_)
            refine ge_iald (jn := (ix (x3_3 - (1 : Int32)))) rfl (t1646 s) ⟨g_29, rfl⟩ g_30 ?_
            refine ge_run (pc' := 71) (L' := [.ref 1638, .int x1, .int x2, .int x3_3, .int ((418 : Int32) + ((4 : Int32) * x1)), .int x5_4, .int (i_5 1639 (ix ((466 : Int32) + ((2 : Int32) * x5_4)))), w_7, w_8, w_9]) (S' := [.int ((1 : Int32) - (i_5 1646 (ix (x3_3 - (1 : Int32))))), .int (x3_3 - (1 : Int32)), .ref 1646]) 1 rfl ?_
            refine ge_iast (jn := (ix (x3_3 - (1 : Int32)))) rfl (t1646 s) (Nat.le_of_ble_eq_true rfl) ⟨g_29, rfl⟩ g_30 (fun i_31 => ?_)
            refine ge_run (pc' := 144) (L' := [.ref 1638, .int x1, .int x2, .int x3_3, .int ((418 : Int32) + ((4 : Int32) * x1)), .int x5_4, .int (i_5 1639 (ix ((466 : Int32) + ((2 : Int32) * x5_4)))), w_7, w_8, w_9]) (S' := []) 1 rfl ?_
            exact ge_leaf (Exists.intro _ (Exists.intro _ (Exists.intro _ rfl)))
          · refine ge_run (pc' := 75) (L' := [.ref 1638, .int x1, .int x2, .int (x3_3 + (-1 : Int32)), .int ((418 : Int32) + ((4 : Int32) * x1)), .int x5_4, .int (i_5 1639 (ix ((466 : Int32) + ((2 : Int32) * x5_4)))), w_7, w_8, w_9]) (S' := [.ref 1638]) 2 rfl ?_
            refine ge_getR (b := 1646) rfl (t1638 s) rfl (r1638_17 s) (Nat.le_of_ble_eq_true rfl) ?_
            refine ge_run (pc' := 79) (L' := [.ref 1638, .int x1, .int x2, .int (x3_3 + (-1 : Int32)), .int ((418 : Int32) + ((4 : Int32) * x1)), .int x5_4, .int (i_5 1639 (ix ((466 : Int32) + ((2 : Int32) * x5_4)))), w_7, w_8, w_9]) (S' := [.int ((x3_3 + (-1 : Int32)) - (1 : Int32)), .ref 1646]) 3 rfl ?_
            refine ge_grd (fun g_33 g_34 => ?_)
            refine ge_iald (jn := (ix ((x3_3 + (-1 : Int32)) - (1 : Int32)))) rfl (t1646 s) ⟨g_33, rfl⟩ g_34 ?_
            refine ge_run (pc' := 82) (L' := [.ref 1638, .int x1, .int x2, .int (x3_3 + (-1 : Int32)), .int ((418 : Int32) + ((4 : Int32) * x1)), .int x5_4, .int (i_5 1639 (ix ((466 : Int32) + ((2 : Int32) * x5_4)))), .int (i_5 1646 (ix ((x3_3 + (-1 : Int32)) - (1 : Int32)))), w_8, w_9]) (S' := [.ref 1638]) 2 rfl ?_
            refine ge_getR (b := 1646) rfl (t1638 s) rfl (r1638_17 s) (Nat.le_of_ble_eq_true rfl) ?_
            refine ge_run (pc' := 84) (L' := [.ref 1638, .int x1, .int x2, .int (x3_3 + (-1 : Int32)), .int ((418 : Int32) + ((4 : Int32) * x1)), .int x5_4, .int (i_5 1639 (ix ((466 : Int32) + ((2 : Int32) * x5_4)))), .int (i_5 1646 (ix ((x3_3 + (-1 : Int32)) - (1 : Int32)))), w_8, w_9]) (S' := [.int (x3_3 + (-1 : Int32)), .ref 1646]) 1 rfl ?_
            refine ge_grd (fun g_35 g_36 => ?_)
            refine ge_iald (jn := (ix (x3_3 + (-1 : Int32)))) rfl (t1646 s) ⟨g_35, rfl⟩ g_36 ?_
            refine ge_run (pc' := 88) (L' := [.ref 1638, .int x1, .int x2, .int (x3_3 + (-1 : Int32)), .int ((418 : Int32) + ((4 : Int32) * x1)), .int x5_4, .int (i_5 1639 (ix ((466 : Int32) + ((2 : Int32) * x5_4)))), .int (i_5 1646 (ix ((x3_3 + (-1 : Int32)) - (1 : Int32)))), .int (i_5 1646 (ix (x3_3 + (-1 : Int32)))), w_9]) (S' := [.int (12 : Int32), .int (i_5 1639 (ix ((466 : Int32) + ((2 : Int32) * x5_4))))]) 3 rfl ?_
            refine ge_bind (K1 := fun (q : Int32) e => e = .inl (125, [.ref 1638, .int x1, .int x2, .int (x3_3 + (-1 : Int32)), .int ((418 : Int32) + ((4 : Int32) * x1)), .int x5_4, .int (i_5 1639 (ix ((466 : Int32) + ((2 : Int32) * x5_4)))), .int (i_5 1646 (ix ((x3_3 + (-1 : Int32)) - (1 : Int32)))), .int (i_5 1646 (ix (x3_3 + (-1 : Int32)))), w_9], [.int q], (n, u, t, i_5, r))) ?_ ?_
            · refine ge_ne rfl (fun h_38 => ?_) (fun h_41 => ?_)
              · refine ge_run (pc' := 91) (L' := [.ref 1638, .int x1, .int x2, .int (x3_3 + (-1 : Int32)), .int ((418 : Int32) + ((4 : Int32) * x1)), .int x5_4, .int (i_5 1639 (ix ((466 : Int32) + ((2 : Int32) * x5_4)))), .int (i_5 1646 (ix ((x3_3 + (-1 : Int32)) - (1 : Int32)))), .int (i_5 1646 (ix (x3_3 + (-1 : Int32)))), w_9]) (S' := [.int (i_5 1646 (ix (x3_3 + (-1 : Int32)))), .int (i_5 1646 (ix ((x3_3 + (-1 : Int32)) - (1 : Int32))))]) 2 rfl ?_
                refine ge_ge rfl (fun h_39 => ?_) (fun h_40 => ?_)
                · refine ge_run (pc' := 125) (L' := [.ref 1638, .int x1, .int x2, .int (x3_3 + (-1 : Int32)), .int ((418 : Int32) + ((4 : Int32) * x1)), .int x5_4, .int (i_5 1639 (ix ((466 : Int32) + ((2 : Int32) * x5_4)))), .int (i_5 1646 (ix ((x3_3 + (-1 : Int32)) - (1 : Int32)))), .int (i_5 1646 (ix (x3_3 + (-1 : Int32)))), w_9]) (S' := [.int (1 : Int32)]) 2 rfl ?_
                  exact ge_leaf rfl
                · refine ge_run (pc' := 125) (L' := [.ref 1638, .int x1, .int x2, .int (x3_3 + (-1 : Int32)), .int ((418 : Int32) + ((4 : Int32) * x1)), .int x5_4, .int (i_5 1639 (ix ((466 : Int32) + ((2 : Int32) * x5_4)))), .int (i_5 1646 (ix ((x3_3 + (-1 : Int32)) - (1 : Int32)))), .int (i_5 1646 (ix (x3_3 + (-1 : Int32)))), w_9]) (S' := [.int (0 : Int32)]) 2 rfl ?_
                  exact ge_leaf rfl
              · refine ge_run (pc' := 98) (L' := [.ref 1638, .int x1, .int x2, .int (x3_3 + (-1 : Int32)), .int ((418 : Int32) + ((4 : Int32) * x1)), .int x5_4, .int (i_5 1639 (ix ((466 : Int32) + ((2 : Int32) * x5_4)))), .int (i_5 1646 (ix ((x3_3 + (-1 : Int32)) - (1 : Int32)))), .int (i_5 1646 (ix (x3_3 + (-1 : Int32)))), w_9]) (S' := [.int (13 : Int32), .int (i_5 1639 (ix ((466 : Int32) + ((2 : Int32) * x5_4))))]) 2 rfl ?_
                refine ge_ne rfl (fun h_42 => ?_) (fun h_45 => ?_)
                · refine ge_run (pc' := 101) (L' := [.ref 1638, .int x1, .int x2, .int (x3_3 + (-1 : Int32)), .int ((418 : Int32) + ((4 : Int32) * x1)), .int x5_4, .int (i_5 1639 (ix ((466 : Int32) + ((2 : Int32) * x5_4)))), .int (i_5 1646 (ix ((x3_3 + (-1 : Int32)) - (1 : Int32)))), .int (i_5 1646 (ix (x3_3 + (-1 : Int32)))), w_9]) (S' := [.int (i_5 1646 (ix (x3_3 + (-1 : Int32)))), .int (i_5 1646 (ix ((x3_3 + (-1 : Int32)) - (1 : Int32))))]) 2 rfl ?_
                  refine ge_le rfl (fun h_43 => ?_) (fun h_44 => ?_)
                  · refine ge_run (pc' := 125) (L' := [.ref 1638, .int x1, .int x2, .int (x3_3 + (-1 : Int32)), .int ((418 : Int32) + ((4 : Int32) * x1)), .int x5_4, .int (i_5 1639 (ix ((466 : Int32) + ((2 : Int32) * x5_4)))), .int (i_5 1646 (ix ((x3_3 + (-1 : Int32)) - (1 : Int32)))), .int (i_5 1646 (ix (x3_3 + (-1 : Int32)))), w_9]) (S' := [.int (1 : Int32)]) 2 rfl ?_
                    exact ge_leaf rfl
                  · refine ge_run (pc' := 125) (L' := [.ref 1638, .int x1, .int x2, .int (x3_3 + (-1 : Int32)), .int ((418 : Int32) + ((4 : Int32) * x1)), .int x5_4, .int (i_5 1639 (ix ((466 : Int32) + ((2 : Int32) * x5_4)))), .int (i_5 1646 (ix ((x3_3 + (-1 : Int32)) - (1 : Int32)))), .int (i_5 1646 (ix (x3_3 + (-1 : Int32)))), w_9]) (S' := [.int (0 : Int32)]) 2 rfl ?_
                    exact ge_leaf rfl
                · refine ge_run (pc' := 108) (L' := [.ref 1638, .int x1, .int x2, .int (x3_3 + (-1 : Int32)), .int ((418 : Int32) + ((4 : Int32) * x1)), .int x5_4, .int (i_5 1639 (ix ((466 : Int32) + ((2 : Int32) * x5_4)))), .int (i_5 1646 (ix ((x3_3 + (-1 : Int32)) - (1 : Int32)))), .int (i_5 1646 (ix (x3_3 + (-1 : Int32)))), w_9]) (S' := [.int (15 : Int32), .int (i_5 1639 (ix ((466 : Int32) + ((2 : Int32) * x5_4))))]) 2 rfl ?_
                  refine ge_ne rfl (fun h_46 => ?_) (fun h_49 => ?_)
                  · refine ge_run (pc' := 113) (L' := [.ref 1638, .int x1, .int x2, .int (x3_3 + (-1 : Int32)), .int ((418 : Int32) + ((4 : Int32) * x1)), .int x5_4, .int (i_5 1639 (ix ((466 : Int32) + ((2 : Int32) * x5_4)))), .int (i_5 1646 (ix ((x3_3 + (-1 : Int32)) - (1 : Int32)))), .int (i_5 1646 (ix (x3_3 + (-1 : Int32)))), w_9]) (S' := [.int (2 : Int32), .int ((i_5 1646 (ix ((x3_3 + (-1 : Int32)) - (1 : Int32)))) + (i_5 1646 (ix (x3_3 + (-1 : Int32)))))]) 4 rfl ?_
                    refine ge_ne rfl (fun h_47 => ?_) (fun h_48 => ?_)
                    · refine ge_run (pc' := 125) (L' := [.ref 1638, .int x1, .int x2, .int (x3_3 + (-1 : Int32)), .int ((418 : Int32) + ((4 : Int32) * x1)), .int x5_4, .int (i_5 1639 (ix ((466 : Int32) + ((2 : Int32) * x5_4)))), .int (i_5 1646 (ix ((x3_3 + (-1 : Int32)) - (1 : Int32)))), .int (i_5 1646 (ix (x3_3 + (-1 : Int32)))), w_9]) (S' := [.int (1 : Int32)]) 2 rfl ?_
                      exact ge_leaf rfl
                    · refine ge_run (pc' := 125) (L' := [.ref 1638, .int x1, .int x2, .int (x3_3 + (-1 : Int32)), .int ((418 : Int32) + ((4 : Int32) * x1)), .int x5_4, .int (i_5 1639 (ix ((466 : Int32) + ((2 : Int32) * x5_4)))), .int (i_5 1646 (ix ((x3_3 + (-1 : Int32)) - (1 : Int32)))), .int (i_5 1646 (ix (x3_3 + (-1 : Int32)))), w_9]) (S' := [.int (0 : Int32)]) 2 rfl ?_
                      exact ge_leaf rfl
                  · refine ge_run (pc' := 121) (L' := [.ref 1638, .int x1, .int x2, .int (x3_3 + (-1 : Int32)), .int ((418 : Int32) + ((4 : Int32) * x1)), .int x5_4, .int (i_5 1639 (ix ((466 : Int32) + ((2 : Int32) * x5_4)))), .int (i_5 1646 (ix ((x3_3 + (-1 : Int32)) - (1 : Int32)))), .int (i_5 1646 (ix (x3_3 + (-1 : Int32)))), w_9]) (S' := [.int ((i_5 1646 (ix ((x3_3 + (-1 : Int32)) - (1 : Int32)))) + (i_5 1646 (ix (x3_3 + (-1 : Int32)))))]) 3 rfl ?_
                    refine ge_le0 rfl (fun h_50 => ?_) (fun h_51 => ?_)
                    · refine ge_run (pc' := 125) (L' := [.ref 1638, .int x1, .int x2, .int (x3_3 + (-1 : Int32)), .int ((418 : Int32) + ((4 : Int32) * x1)), .int x5_4, .int (i_5 1639 (ix ((466 : Int32) + ((2 : Int32) * x5_4)))), .int (i_5 1646 (ix ((x3_3 + (-1 : Int32)) - (1 : Int32)))), .int (i_5 1646 (ix (x3_3 + (-1 : Int32)))), w_9]) (S' := [.int (1 : Int32)]) 2 rfl ?_
                      exact ge_leaf rfl
                    · refine ge_run (pc' := 125) (L' := [.ref 1638, .int x1, .int x2, .int (x3_3 + (-1 : Int32)), .int ((418 : Int32) + ((4 : Int32) * x1)), .int x5_4, .int (i_5 1639 (ix ((466 : Int32) + ((2 : Int32) * x5_4)))), .int (i_5 1646 (ix ((x3_3 + (-1 : Int32)) - (1 : Int32)))), .int (i_5 1646 (ix (x3_3 + (-1 : Int32)))), w_9]) (S' := [.int (0 : Int32)]) 1 rfl ?_
                      exact ge_leaf rfl
            · rintro y_37 _ rfl
              try dsimp only
              refine ge_run (pc' := 127) (L' := [.ref 1638, .int x1, .int x2, .int (x3_3 + (-1 : Int32)), .int ((418 : Int32) + ((4 : Int32) * x1)), .int x5_4, .int (i_5 1639 (ix ((466 : Int32) + ((2 : Int32) * x5_4)))), .int (i_5 1646 (ix ((x3_3 + (-1 : Int32)) - (1 : Int32)))), .int (i_5 1646 (ix (x3_3 + (-1 : Int32)))), .int y_37]) (S' := [.ref 1638]) 2 rfl ?_
              refine ge_getR (b := 1646) rfl (t1638 s) rfl (r1638_17 s) (Nat.le_of_ble_eq_true rfl) ?_
              refine ge_run (pc' := 133) (L' := [.ref 1638, .int x1, .int x2, .int (x3_3 + (-1 : Int32)), .int ((418 : Int32) + ((4 : Int32) * x1)), .int x5_4, .int (i_5 1639 (ix ((466 : Int32) + ((2 : Int32) * x5_4)))), .int (i_5 1646 (ix ((x3_3 + (-1 : Int32)) - (1 : Int32)))), .int (i_5 1646 (ix (x3_3 + (-1 : Int32)))), .int y_37]) (S' := [.int (11 : Int32), .int (i_5 1639 (ix ((466 : Int32) + ((2 : Int32) * x5_4)))), .int ((x3_3 + (-1 : Int32)) - (1 : Int32)), .ref 1646]) 5 rfl ?_
              refine ge_bind (K1 := fun (q : Int32) e => e = .inl (143, [.ref 1638, .int x1, .int x2, .int (x3_3 + (-1 : Int32)), .int ((418 : Int32) + ((4 : Int32) * x1)), .int x5_4, .int (i_5 1639 (ix ((466 : Int32) + ((2 : Int32) * x5_4)))), .int (i_5 1646 (ix ((x3_3 + (-1 : Int32)) - (1 : Int32)))), .int (i_5 1646 (ix (x3_3 + (-1 : Int32)))), .int y_37], [.int q, .int ((x3_3 + (-1 : Int32)) - (1 : Int32)), .ref 1646], (n, u, t, i_5, r))) ?_ ?_
              · refine ge_ne rfl (fun h_53 => ?_) (fun h_54 => ?_)
                · refine ge_run (pc' := 143) (L' := [.ref 1638, .int x1, .int x2, .int (x3_3 + (-1 : Int32)), .int ((418 : Int32) + ((4 : Int32) * x1)), .int x5_4, .int (i_5 1639 (ix ((466 : Int32) + ((2 : Int32) * x5_4)))), .int (i_5 1646 (ix ((x3_3 + (-1 : Int32)) - (1 : Int32)))), .int (i_5 1646 (ix (x3_3 + (-1 : Int32)))), .int y_37]) (S' := [.int ((i_5 1646 (ix ((x3_3 + (-1 : Int32)) - (1 : Int32)))) + (i_5 1646 (ix (x3_3 + (-1 : Int32))))), .int ((x3_3 + (-1 : Int32)) - (1 : Int32)), .ref 1646]) 4 rfl ?_
                  exact ge_leaf rfl
                · refine ge_run (pc' := 139) (L' := [.ref 1638, .int x1, .int x2, .int (x3_3 + (-1 : Int32)), .int ((418 : Int32) + ((4 : Int32) * x1)), .int x5_4, .int (i_5 1639 (ix ((466 : Int32) + ((2 : Int32) * x5_4)))), .int (i_5 1646 (ix ((x3_3 + (-1 : Int32)) - (1 : Int32)))), .int (i_5 1646 (ix (x3_3 + (-1 : Int32)))), .int y_37]) (S' := [.int y_37, .int ((x3_3 + (-1 : Int32)) - (1 : Int32)), .ref 1646]) 1 rfl ?_
                  refine ge_eq0 rfl (fun h_55 => ?_) (fun h_56 => ?_)
                  · refine ge_run (pc' := 143) (L' := [.ref 1638, .int x1, .int x2, .int (x3_3 + (-1 : Int32)), .int ((418 : Int32) + ((4 : Int32) * x1)), .int x5_4, .int (i_5 1639 (ix ((466 : Int32) + ((2 : Int32) * x5_4)))), .int (i_5 1646 (ix ((x3_3 + (-1 : Int32)) - (1 : Int32)))), .int (i_5 1646 (ix (x3_3 + (-1 : Int32)))), .int y_37]) (S' := [.int (0 : Int32), .int ((x3_3 + (-1 : Int32)) - (1 : Int32)), .ref 1646]) 1 rfl ?_
                    exact ge_leaf rfl
                  · refine ge_run (pc' := 143) (L' := [.ref 1638, .int x1, .int x2, .int (x3_3 + (-1 : Int32)), .int ((418 : Int32) + ((4 : Int32) * x1)), .int x5_4, .int (i_5 1639 (ix ((466 : Int32) + ((2 : Int32) * x5_4)))), .int (i_5 1646 (ix ((x3_3 + (-1 : Int32)) - (1 : Int32)))), .int (i_5 1646 (ix (x3_3 + (-1 : Int32)))), .int y_37]) (S' := [.int (1 : Int32), .int ((x3_3 + (-1 : Int32)) - (1 : Int32)), .ref 1646]) 2 rfl ?_
                    exact ge_leaf rfl
              · rintro y_52 _ rfl
                try dsimp only
                refine ge_iast (jn := (ix ((x3_3 + (-1 : Int32)) - (1 : Int32)))) rfl (t1646 s) (Nat.le_of_ble_eq_true rfl) ⟨g_33, rfl⟩ g_34 (fun i_57 => ?_)
                exact ge_leaf (Exists.intro _ (Exists.intro _ (Exists.intro _ rfl)))
        · refine ge_run (pc' := 36) (L' := [.ref 1638, .int x1, .int x2, .int x3_3, .int ((418 : Int32) + ((4 : Int32) * x1)), .int x5_4, .int (i_5 1639 (ix ((466 : Int32) + ((2 : Int32) * x5_4)))), w_7, w_8, w_9]) (S' := [.ref 1638]) 1 rfl ?_
          refine ge_getR (b := 1646) rfl (t1638 s) rfl (r1638_17 s) (Nat.le_of_ble_eq_true rfl) ?_
          refine ge_run (pc' := 41) (L' := [.ref 1638, .int x1, .int x2, .int x3_3, .int ((418 : Int32) + ((4 : Int32) * x1)), .int x5_4, .int (i_5 1639 (ix ((466 : Int32) + ((2 : Int32) * x5_4)))), w_7, w_8, w_9]) (S' := [.ref 1638, .int (i_5 1639 (ix ((466 : Int32) + ((2 : Int32) * x5_4)))), .ref 1638, .int x3_3, .ref 1646]) 4 rfl ?_
          refine ge_getR (b := 1639) rfl (t1638 s) rfl (r1638_1 s) (Nat.le_of_ble_eq_true rfl) ?_
          refine ge_run (pc' := 49) (L' := [.ref 1638, .int x1, .int x2, .int x3_3, .int ((418 : Int32) + ((4 : Int32) * x1)), .int x5_4, .int (i_5 1639 (ix ((466 : Int32) + ((2 : Int32) * x5_4)))), w_7, w_8, w_9]) (S' := [.int (((466 : Int32) + ((2 : Int32) * x5_4)) + (1 : Int32)), .ref 1639, .int (i_5 1639 (ix ((466 : Int32) + ((2 : Int32) * x5_4)))), .ref 1638, .int x3_3, .ref 1646]) 7 rfl ?_
          refine ge_grd (fun g_59 g_60 => ?_)
          refine ge_iald (jn := (ix (((466 : Int32) + ((2 : Int32) * x5_4)) + (1 : Int32)))) rfl (t1639 s) ⟨g_59, rfl⟩ g_60 ?_
          refine ge_run (pc' := 51) (L' := [.ref 1638, .int x1, .int x2, .int x3_3, .int ((418 : Int32) + ((4 : Int32) * x1)), .int x5_4, .int (i_5 1639 (ix ((466 : Int32) + ((2 : Int32) * x5_4)))), w_7, w_8, w_9]) (S' := [.int x2, .int (i_5 1639 (ix (((466 : Int32) + ((2 : Int32) * x5_4)) + (1 : Int32)))), .int (i_5 1639 (ix ((466 : Int32) + ((2 : Int32) * x5_4)))), .ref 1638, .int x3_3, .ref 1646]) 1 rfl ?_
          refine ge_cv rfl rfl rfl (t1638 s) rfl rfl rfl (D := 4) (Nat.le_trans (by decide) hd) (c_Mo_factOf (n := n) (u := u) (t := t) (i := i_5) (r := r) s (i_5 1639 (ix ((466 : Int32) + ((2 : Int32) * x5_4)))) (i_5 1639 (ix (((466 : Int32) + ((2 : Int32) * x5_4)) + (1 : Int32)))) x2) ?_
          rintro v_61 -
          dsimp only [bkE, F_i0]
          refine ge_grd (fun g_62 g_63 => ?_)
          refine ge_iast (jn := (ix x3_3)) rfl (t1646 s) (Nat.le_of_ble_eq_true rfl) ⟨g_62, rfl⟩ g_63 (fun i_64 => ?_)
          refine ge_run (pc' := 144) (L' := [.ref 1638, .int x1, .int x2, .int (x3_3 + (1 : Int32)), .int ((418 : Int32) + ((4 : Int32) * x1)), .int x5_4, .int (i_5 1639 (ix ((466 : Int32) + ((2 : Int32) * x5_4)))), w_7, w_8, w_9]) (S' := []) 2 rfl ?_
          exact ge_leaf (Exists.intro _ (Exists.intro _ (Exists.intro _ rfl)))
      · rintro ⟨x3_22, i_23⟩ _ ⟨w_24, w_25, w_26, rfl⟩
        try dsimp only
        refine ge_run (pc' := 15) (L' := [.ref 1638, .int x1, .int x2, .int x3_22, .int ((418 : Int32) + ((4 : Int32) * x1)), .int (x5_4 + (1 : Int32)), .int (i_5 1639 (ix ((466 : Int32) + ((2 : Int32) * x5_4)))), w_24, w_25, w_26]) (S' := []) 2 rfl ?_
        exact ge_leaf (K := kX _ _) (Exists.intro _ (Exists.intro _ (Exists.intro _ (Exists.intro _ rfl))))
    · exact ge_leaf (K := kX _ _) (Exists.intro _ (Exists.intro _ (Exists.intro _ (Exists.intro _ (Exists.intro _ rfl)))))
  · rintro ⟨x3_10, i_11⟩ _ ⟨w_12, w_13, w_14, w_15, w_16, rfl⟩
    try dsimp only
    refine ge_run (pc' := 147) (L' := [.ref 1638, .int x1, .int x2, .int x3_10, .int ((418 : Int32) + ((4 : Int32) * x1)), w_12, w_13, w_14, w_15, w_16]) (S' := [.int x3_10]) 1 rfl ?_
    refine ge_eq0 rfl (fun h_66 => ?_) (fun h_67 => ?_)
    · refine ge_run (pc' := 157) (L' := [.ref 1638, .int x1, .int x2, .int x3_10, .int ((418 : Int32) + ((4 : Int32) * x1)), w_12, w_13, w_14, w_15, w_16]) (S' := [.int (1 : Int32)]) 2 rfl ?_
      exact ge_retz rfl rfl (Or.inr rfl) (And.intro rfl trivial)
    · refine ge_run (pc' := 149) (L' := [.ref 1638, .int x1, .int x2, .int x3_10, .int ((418 : Int32) + ((4 : Int32) * x1)), w_12, w_13, w_14, w_15, w_16]) (S' := [.ref 1638]) 1 rfl ?_
      refine ge_getR (b := 1646) rfl (t1638 s) rfl (r1638_17 s) (Nat.le_of_ble_eq_true rfl) ?_
      refine ge_run (pc' := 151) (L' := [.ref 1638, .int x1, .int x2, .int x3_10, .int ((418 : Int32) + ((4 : Int32) * x1)), w_12, w_13, w_14, w_15, w_16]) (S' := [.int (0 : Int32), .ref 1646]) 1 rfl ?_
      refine ge_iald (jn := 0) rfl (t1646 s) lk0 (by decide) ?_
      refine ge_run (pc' := 153) (L' := [.ref 1638, .int x1, .int x2, .int x3_10, .int ((418 : Int32) + ((4 : Int32) * x1)), w_12, w_13, w_14, w_15, w_16]) (S' := [.int (1 : Int32), .int (i_11 1646 0)]) 1 rfl ?_
      refine ge_ne rfl (fun h_68 => ?_) (fun h_69 => ?_)
      · refine ge_run (pc' := 157) (L' := [.ref 1638, .int x1, .int x2, .int x3_10, .int ((418 : Int32) + ((4 : Int32) * x1)), w_12, w_13, w_14, w_15, w_16]) (S' := [.int (1 : Int32)]) 2 rfl ?_
        exact ge_retz rfl rfl (Or.inr rfl) (And.intro rfl trivial)
      · refine ge_run (pc' := 157) (L' := [.ref 1638, .int x1, .int x2, .int x3_10, .int ((418 : Int32) + ((4 : Int32) * x1)), w_12, w_13, w_14, w_15, w_16]) (S' := [.int (0 : Int32)]) 1 rfl ?_
        exact ge_retz rfl rfl (Or.inl rfl) (And.intro rfl trivial)
def f_Mo_sumOf (i : MI) (x1 : Int32) (x2 : Int32) : Option (Int32 × MI) :=
  (itr (σ := Int32 × Int32 × MI) (ρ := Int32 × MI) (fun (x3_1, x4_2, i_3) => if (i_3 1639 5) = (1 : Int32) then (if x4_2 < (i_3 1639 417) then (grd ((418 : Int32) + ((4 : Int32) * x4_2)) 2115 ((if (i_3 1639 (ix ((418 : Int32) + ((4 : Int32) * x4_2)))) = x1 then ((f_Mo_holdsLine i_3 x4_2 x2).bind (fun (v_14, i_15) => if v_14 = 0 then (some (x3_1, i_15)) else (grd (((418 : Int32) + ((4 : Int32) * x4_2)) + (1 : Int32)) 2115 (some ((x3_1 + (i_15 1639 (ix (((418 : Int32) + ((4 : Int32) * x4_2)) + (1 : Int32))))), i_15))))) else (some (x3_1, i_3)) : Option (Int32 × MI)).bind (fun (x3_11, i_12) => some (.inl (x3_11, (x4_2 + (1 : Int32)), i_12))))) else (some (.inr (x3_1, i_3)))) else (some (.inr (x3_1, i_3)))) 1000000 ((0 : Int32), (0 : Int32), i)).bind (fun (x3_4, i_5) => some (x3_4, i_5))
set_option maxHeartbeats 4000000 in
theorem c_Mo_sumOf {n u : Nat} {t : MT} {i : MI} {r : MR} (s : Sh n t r) (x1 : Int32) (x2 : Int32) : Cn 6 260 [.ref 1638, .int x1, .int x2] (n, u, t, i, r) (f_Mo_sumOf i x1 x2) (F_i1 n u t r) PT := by
  refine cn_of (Y := K_Mo_sumOf) (L0 := [.ref 1638, .int x1, .int x2, uV, uV]) rfl rfl rfl ?_
  intro d hd
  unfold f_Mo_sumOf
  refine ge_run (pc' := 4) (L' := [.ref 1638, .int x1, .int x2, .int (0 : Int32), .int (0 : Int32)]) (S' := []) 4 rfl ?_
  refine ge_bind (K1 := fun (q : Int32 × MI) e => ∃ w_6 : Value, e = .inl (46, [.ref 1638, .int x1, .int x2, .int q.1, w_6], [], (n, u, t, q.2, r))) (ge_itr (C := fun (q : Int32 × Int32 × MI) e => e = .inl (4, [.ref 1638, .int x1, .int x2, .int q.1, .int q.2.1], [], (n, u, t, q.2.2, r))) ?_ _ _ _ rfl) ?_
  · rintro ⟨x3_1, x4_2, i_3⟩ _ rfl
    try dsimp only
    refine ge_run (pc' := 5) (L' := [.ref 1638, .int x1, .int x2, .int x3_1, .int x4_2]) (S' := [.ref 1638]) 1 rfl ?_
    refine ge_getR (b := 1639) rfl (t1638 s) rfl (r1638_1 s) (Nat.le_of_ble_eq_true rfl) ?_
    refine ge_run (pc' := 7) (L' := [.ref 1638, .int x1, .int x2, .int x3_1, .int x4_2]) (S' := [.int (5 : Int32), .ref 1639]) 1 rfl ?_
    refine ge_iald (jn := 5) rfl (t1639 s) lk5 (by decide) ?_
    refine ge_run (pc' := 9) (L' := [.ref 1638, .int x1, .int x2, .int x3_1, .int x4_2]) (S' := [.int (1 : Int32), .int (i_3 1639 5)]) 1 rfl ?_
    refine ge_ne rfl (fun h_7 => ?_) (fun h_22 => ?_)
    · refine ge_run (pc' := 12) (L' := [.ref 1638, .int x1, .int x2, .int x3_1, .int x4_2]) (S' := [.ref 1638, .int x4_2]) 2 rfl ?_
      refine ge_getR (b := 1639) rfl (t1638 s) rfl (r1638_1 s) (Nat.le_of_ble_eq_true rfl) ?_
      refine ge_run (pc' := 14) (L' := [.ref 1638, .int x1, .int x2, .int x3_1, .int x4_2]) (S' := [.int (417 : Int32), .ref 1639, .int x4_2]) 1 rfl ?_
      refine ge_iald (jn := 417) rfl (t1639 s) lk417 (by decide) ?_
      refine ge_ge rfl (fun h_8 => ?_) (fun h_21 => ?_)
      · refine ge_run (pc' := 17) (L' := [.ref 1638, .int x1, .int x2, .int x3_1, .int x4_2]) (S' := [.ref 1638]) 1 rfl ?_
        refine ge_getR (b := 1639) rfl (t1638 s) rfl (r1638_1 s) (Nat.le_of_ble_eq_true rfl) ?_
        refine ge_run (pc' := 23) (L' := [.ref 1638, .int x1, .int x2, .int x3_1, .int x4_2]) (S' := [.int ((418 : Int32) + ((4 : Int32) * x4_2)), .ref 1639]) 5 rfl ?_
        refine ge_grd (fun g_9 g_10 => ?_)
        refine ge_iald (jn := (ix ((418 : Int32) + ((4 : Int32) * x4_2)))) rfl (t1639 s) ⟨g_9, rfl⟩ g_10 ?_
        refine ge_run (pc' := 25) (L' := [.ref 1638, .int x1, .int x2, .int x3_1, .int x4_2]) (S' := [.int x1, .int (i_3 1639 (ix ((418 : Int32) + ((4 : Int32) * x4_2))))]) 1 rfl ?_
        refine ge_bind (K1 := fun (q : Int32 × MI) e => e = .inl (44, [.ref 1638, .int x1, .int x2, .int q.1, .int x4_2], [], (n, u, t, q.2, r))) ?_ ?_
        · refine ge_ne rfl (fun h_13 => ?_) (fun h_20 => ?_)
          · refine ge_run (pc' := 29) (L' := [.ref 1638, .int x1, .int x2, .int x3_1, .int x4_2]) (S' := [.int x2, .int x4_2, .ref 1638]) 3 rfl ?_
            refine ge_cv rfl rfl rfl (t1638 s) rfl rfl rfl (D := 5) (Nat.le_trans (by decide) hd) (c_Mo_holdsLine (n := n) (u := u) (t := t) (i := i_3) (r := r) s x4_2 x2) ?_
            rintro ⟨v_14, i_15⟩ -
            dsimp only [bkE, F_i1]
            refine ge_eq0 rfl (fun h_16 => ?_) (fun h_17 => ?_)
            · exact ge_leaf rfl
            · refine ge_run (pc' := 33) (L' := [.ref 1638, .int x1, .int x2, .int x3_1, .int x4_2]) (S' := [.ref 1638, .int x3_1]) 2 rfl ?_
              refine ge_getR (b := 1639) rfl (t1638 s) rfl (r1638_1 s) (Nat.le_of_ble_eq_true rfl) ?_
              refine ge_run (pc' := 41) (L' := [.ref 1638, .int x1, .int x2, .int x3_1, .int x4_2]) (S' := [.int (((418 : Int32) + ((4 : Int32) * x4_2)) + (1 : Int32)), .ref 1639, .int x3_1]) 7 rfl ?_
              refine ge_grd (fun g_18 g_19 => ?_)
              refine ge_iald (jn := (ix (((418 : Int32) + ((4 : Int32) * x4_2)) + (1 : Int32)))) rfl (t1639 s) ⟨g_18, rfl⟩ g_19 ?_
              refine ge_run (pc' := 44) (L' := [.ref 1638, .int x1, .int x2, .int (x3_1 + (i_15 1639 (ix (((418 : Int32) + ((4 : Int32) * x4_2)) + (1 : Int32))))), .int x4_2]) (S' := []) 2 rfl ?_
              exact ge_leaf rfl
          · exact ge_leaf rfl
        · rintro ⟨x3_11, i_12⟩ _ rfl
          try dsimp only
          refine ge_run (pc' := 4) (L' := [.ref 1638, .int x1, .int x2, .int x3_11, .int (x4_2 + (1 : Int32))]) (S' := []) 2 rfl ?_
          exact ge_leaf (K := kX _ _) rfl
      · exact ge_leaf (K := kX _ _) (Exists.intro _ rfl)
    · exact ge_leaf (K := kX _ _) (Exists.intro _ rfl)
  · rintro ⟨x3_4, i_5⟩ _ ⟨w_6, rfl⟩
    try dsimp only
    refine ge_run (pc' := 47) (L' := [.ref 1638, .int x1, .int x2, .int x3_4, w_6]) (S' := [.int x3_4]) 1 rfl ?_
    exact ge_ret rfl rfl (And.intro rfl trivial)
def f_Mo_turnsBy (i : MI) (x1 : Int32) : Option (Int32 × MI) :=
  (f_Mo_sumOf i (1 : Int32) x1).bind (fun (v_1, i_2) => (f_Mo_sumOf i_2 (0 : Int32) x1).bind (fun (v_3, i_4) => (f_J_max (0 : Int32) (((5 : Int32) + v_1) - v_3)).bind (fun v_5 => some (v_5, i_4))))
set_option maxHeartbeats 4000000 in
theorem c_Mo_turnsBy {n u : Nat} {t : MT} {i : MI} {r : MR} (s : Sh n t r) (x1 : Int32) : Cn 7 261 [.ref 1638, .int x1] (n, u, t, i, r) (f_Mo_turnsBy i x1) (F_i1 n u t r) PT := by
  refine cn_of (Y := K_Mo_turnsBy) (L0 := [.ref 1638, .int x1]) rfl rfl rfl ?_
  intro d hd
  unfold f_Mo_turnsBy
  refine ge_run (pc' := 5) (L' := [.ref 1638, .int x1]) (S' := [.int x1, .int (1 : Int32), .ref 1638, .int (5 : Int32), .int (0 : Int32)]) 5 rfl ?_
  refine ge_cv rfl rfl rfl (t1638 s) rfl rfl rfl (D := 6) (Nat.le_trans (by decide) hd) (c_Mo_sumOf (n := n) (u := u) (t := t) (i := i) (r := r) s (1 : Int32) x1) ?_
  rintro ⟨v_1, i_2⟩ -
  dsimp only [bkE, F_i1]
  refine ge_run (pc' := 10) (L' := [.ref 1638, .int x1]) (S' := [.int x1, .int (0 : Int32), .ref 1638, .int ((5 : Int32) + v_1), .int (0 : Int32)]) 4 rfl ?_
  refine ge_cv rfl rfl rfl (t1638 s) rfl rfl rfl (D := 6) (Nat.le_trans (by decide) hd) (c_Mo_sumOf (n := n) (u := u) (t := t) (i := i_2) (r := r) s (0 : Int32) x1) ?_
  rintro ⟨v_3, i_4⟩ -
  dsimp only [bkE, F_i1]
  refine ge_run (pc' := 12) (L' := [.ref 1638, .int x1]) (S' := [.int (((5 : Int32) + v_1) - v_3), .int (0 : Int32)]) 1 rfl ?_
  refine ge_cs rfl rfl rfl rfl rfl rfl (D := 1) (Nat.le_trans (by decide) hd) (c_J_max (n := n) (u := u) (t := t) (i := i_4) (r := r) s (0 : Int32) (((5 : Int32) + v_1) - v_3)) ?_
  rintro v_5 -
  dsimp only [bkE, F_i0]
  exact ge_ret rfl rfl (And.intro rfl trivial)
def f_Mo_priceOf (i : MI) (x1 : Int32) : Option (Int32 × MI) :=
  (f_Mo_of i x1 (1 : Int32)).bind (fun v_1 => (f_Mo_of i x1 (2 : Int32)).bind (fun v_2 => (f_Mo_sumOf i (2 : Int32) x1).bind (fun (v_3, i_4) => some (((((2 : Int32) * v_1) + (v_2 / (10 : Int32))) + v_3), i_4))))
set_option maxHeartbeats 4000000 in
theorem c_Mo_priceOf {n u : Nat} {t : MT} {i : MI} {r : MR} (s : Sh n t r) (x1 : Int32) : Cn 7 262 [.ref 1638, .int x1] (n, u, t, i, r) (f_Mo_priceOf i x1) (F_i1 n u t r) PT := by
  refine cn_of (Y := K_Mo_priceOf) (L0 := [.ref 1638, .int x1]) rfl rfl rfl ?_
  intro d hd
  unfold f_Mo_priceOf
  refine ge_run (pc' := 4) (L' := [.ref 1638, .int x1]) (S' := [.int (1 : Int32), .int x1, .ref 1638, .int (2 : Int32)]) 4 rfl ?_
  refine ge_cv rfl rfl rfl (t1638 s) rfl rfl rfl (D := 2) (Nat.le_trans (by decide) hd) (c_Mo_of (n := n) (u := u) (t := t) (i := i) (r := r) s x1 (1 : Int32)) ?_
  rintro v_1 -
  dsimp only [bkE, F_i0]
  refine ge_run (pc' := 9) (L' := [.ref 1638, .int x1]) (S' := [.int (2 : Int32), .int x1, .ref 1638, .int ((2 : Int32) * v_1)]) 4 rfl ?_
  refine ge_cv rfl rfl rfl (t1638 s) rfl rfl rfl (D := 2) (Nat.le_trans (by decide) hd) (c_Mo_of (n := n) (u := u) (t := t) (i := i) (r := r) s x1 (2 : Int32)) ?_
  rintro v_2 -
  dsimp only [bkE, F_i0]
  refine ge_run (pc' := 11) (L' := [.ref 1638, .int x1]) (S' := [.int (10 : Int32), .int v_2, .int ((2 : Int32) * v_1)]) 1 rfl ?_
  refine ge_div rfl (by decide) ?_
  refine ge_run (pc' := 16) (L' := [.ref 1638, .int x1]) (S' := [.int x1, .int (2 : Int32), .ref 1638, .int (((2 : Int32) * v_1) + (v_2 / (10 : Int32)))]) 4 rfl ?_
  refine ge_cv rfl rfl rfl (t1638 s) rfl rfl rfl (D := 6) (Nat.le_trans (by decide) hd) (c_Mo_sumOf (n := n) (u := u) (t := t) (i := i) (r := r) s (2 : Int32) x1) ?_
  rintro ⟨v_3, i_4⟩ -
  dsimp only [bkE, F_i1]
  refine ge_run (pc' := 18) (L' := [.ref 1638, .int x1]) (S' := [.int ((((2 : Int32) * v_1) + (v_2 / (10 : Int32))) + v_3)]) 1 rfl ?_
  exact ge_ret rfl rfl (And.intro rfl trivial)
def f_Mo_isTold (i : MI) (x1 : Int32) (x2 : Int32) (x3 : Int32) : Option (MI) :=
  (itr (σ := Int32 × MI) (ρ := MI) (fun (x4_1, i_2) => if x4_1 < (5 : Int32) then (some (.inr i_2)) else (grd (((117 : Int32) + x4_1) - (5 : Int32)) 2115 (grd ((117 : Int32) + x4_1) 2115 (bnd (wr i_2 1639 (ix ((117 : Int32) + x4_1)) (i_2 1639 (ix (((117 : Int32) + x4_1) - (5 : Int32))))) (fun i_11 => some (.inl ((x4_1 + (-1 : Int32)), i_11))))))) 1000000 ((299 : Int32), i)).bind (fun i_3 => bnd (wr i_3 1639 117 (i_3 1639 8)) (fun i_12 => bnd (wr i_12 1639 118 x1) (fun i_13 => bnd (wr i_13 1639 119 x2) (fun i_14 => bnd (wr i_14 1639 120 x3) (fun i_15 => (f_Mo_of i_15 x1 (2 : Int32)).bind (fun v_16 => bnd (wr i_15 1639 121 v_16) (fun i_17 => (f_J_min (60 : Int32) ((i_17 1639 9) + (1 : Int32))).bind (fun v_18 => bnd (wr i_17 1639 9 v_18) (fun i_19 => some i_19)))))))))
set_option maxHeartbeats 4000000 in
theorem c_Mo_isTold {n u : Nat} {t : MT} {i : MI} {r : MR} (s : Sh n t r) (x1 : Int32) (x2 : Int32) (x3 : Int32) : Cn 3 263 [.ref 1638, .int x1, .int x2, .int x3] (n, u, t, i, r) (f_Mo_isTold i x1 x2 x3) (F_v1 n u t r) PT := by
  refine cn_of (Y := K_Mo_isTold) (L0 := [.ref 1638, .int x1, .int x2, .int x3, uV]) rfl rfl rfl ?_
  intro d hd
  unfold f_Mo_isTold
  refine ge_run (pc' := 2) (L' := [.ref 1638, .int x1, .int x2, .int x3, .int (299 : Int32)]) (S' := []) 2 rfl ?_
  refine ge_bind (K1 := fun (q : MI) e => ∃ w_4 : Value, e = .inl (21, [.ref 1638, .int x1, .int x2, .int x3, w_4], [], (n, u, t, q, r))) (ge_itr (C := fun (q : Int32 × MI) e => e = .inl (2, [.ref 1638, .int x1, .int x2, .int x3, .int q.1], [], (n, u, t, q.2, r))) ?_ _ _ _ rfl) ?_
  · rintro ⟨x4_1, i_2⟩ _ rfl
    try dsimp only
    refine ge_run (pc' := 4) (L' := [.ref 1638, .int x1, .int x2, .int x3, .int x4_1]) (S' := [.int (5 : Int32), .int x4_1]) 2 rfl ?_
    refine ge_lt rfl (fun h_5 => ?_) (fun h_6 => ?_)
    · exact ge_leaf (K := kX _ _) (Exists.intro _ rfl)
    · refine ge_run (pc' := 6) (L' := [.ref 1638, .int x1, .int x2, .int x3, .int x4_1]) (S' := [.ref 1638]) 1 rfl ?_
      refine ge_getR (b := 1639) rfl (t1638 s) rfl (r1638_1 s) (Nat.le_of_ble_eq_true rfl) ?_
      refine ge_run (pc' := 11) (L' := [.ref 1638, .int x1, .int x2, .int x3, .int x4_1]) (S' := [.ref 1638, .int ((117 : Int32) + x4_1), .ref 1639]) 4 rfl ?_
      refine ge_getR (b := 1639) rfl (t1638 s) rfl (r1638_1 s) (Nat.le_of_ble_eq_true rfl) ?_
      refine ge_run (pc' := 17) (L' := [.ref 1638, .int x1, .int x2, .int x3, .int x4_1]) (S' := [.int (((117 : Int32) + x4_1) - (5 : Int32)), .ref 1639, .int ((117 : Int32) + x4_1), .ref 1639]) 5 rfl ?_
      refine ge_grd (fun g_7 g_8 => ?_)
      refine ge_iald (jn := (ix (((117 : Int32) + x4_1) - (5 : Int32)))) rfl (t1639 s) ⟨g_7, rfl⟩ g_8 ?_
      refine ge_grd (fun g_9 g_10 => ?_)
      refine ge_iast (jn := (ix ((117 : Int32) + x4_1))) rfl (t1639 s) (Nat.le_of_ble_eq_true rfl) ⟨g_9, rfl⟩ g_10 (fun i_11 => ?_)
      refine ge_run (pc' := 2) (L' := [.ref 1638, .int x1, .int x2, .int x3, .int (x4_1 + (-1 : Int32))]) (S' := []) 2 rfl ?_
      exact ge_leaf (K := kX _ _) rfl
  · rintro i_3 _ ⟨w_4, rfl⟩
    try dsimp only
    refine ge_run (pc' := 22) (L' := [.ref 1638, .int x1, .int x2, .int x3, w_4]) (S' := [.ref 1638]) 1 rfl ?_
    refine ge_getR (b := 1639) rfl (t1638 s) rfl (r1638_1 s) (Nat.le_of_ble_eq_true rfl) ?_
    refine ge_run (pc' := 25) (L' := [.ref 1638, .int x1, .int x2, .int x3, w_4]) (S' := [.ref 1638, .int (117 : Int32), .ref 1639]) 2 rfl ?_
    refine ge_getR (b := 1639) rfl (t1638 s) rfl (r1638_1 s) (Nat.le_of_ble_eq_true rfl) ?_
    refine ge_run (pc' := 27) (L' := [.ref 1638, .int x1, .int x2, .int x3, w_4]) (S' := [.int (8 : Int32), .ref 1639, .int (117 : Int32), .ref 1639]) 1 rfl ?_
    refine ge_iald (jn := 8) rfl (t1639 s) lk8 (by decide) ?_
    refine ge_iast (jn := 117) rfl (t1639 s) (Nat.le_of_ble_eq_true rfl) lk117 (by decide) (fun i_12 => ?_)
    refine ge_run (pc' := 30) (L' := [.ref 1638, .int x1, .int x2, .int x3, w_4]) (S' := [.ref 1638]) 1 rfl ?_
    refine ge_getR (b := 1639) rfl (t1638 s) rfl (r1638_1 s) (Nat.le_of_ble_eq_true rfl) ?_
    refine ge_run (pc' := 33) (L' := [.ref 1638, .int x1, .int x2, .int x3, w_4]) (S' := [.int x1, .int (118 : Int32), .ref 1639]) 2 rfl ?_
    refine ge_iast (jn := 118) rfl (t1639 s) (Nat.le_of_ble_eq_true rfl) lk118 (by decide) (fun i_13 => ?_)
    refine ge_run (pc' := 35) (L' := [.ref 1638, .int x1, .int x2, .int x3, w_4]) (S' := [.ref 1638]) 1 rfl ?_
    refine ge_getR (b := 1639) rfl (t1638 s) rfl (r1638_1 s) (Nat.le_of_ble_eq_true rfl) ?_
    refine ge_run (pc' := 38) (L' := [.ref 1638, .int x1, .int x2, .int x3, w_4]) (S' := [.int x2, .int (119 : Int32), .ref 1639]) 2 rfl ?_
    refine ge_iast (jn := 119) rfl (t1639 s) (Nat.le_of_ble_eq_true rfl) lk119 (by decide) (fun i_14 => ?_)
    refine ge_run (pc' := 40) (L' := [.ref 1638, .int x1, .int x2, .int x3, w_4]) (S' := [.ref 1638]) 1 rfl ?_
    refine ge_getR (b := 1639) rfl (t1638 s) rfl (r1638_1 s) (Nat.le_of_ble_eq_true rfl) ?_
    refine ge_run (pc' := 43) (L' := [.ref 1638, .int x1, .int x2, .int x3, w_4]) (S' := [.int x3, .int (120 : Int32), .ref 1639]) 2 rfl ?_
    refine ge_iast (jn := 120) rfl (t1639 s) (Nat.le_of_ble_eq_true rfl) lk120 (by decide) (fun i_15 => ?_)
    refine ge_run (pc' := 45) (L' := [.ref 1638, .int x1, .int x2, .int x3, w_4]) (S' := [.ref 1638]) 1 rfl ?_
    refine ge_getR (b := 1639) rfl (t1638 s) rfl (r1638_1 s) (Nat.le_of_ble_eq_true rfl) ?_
    refine ge_run (pc' := 50) (L' := [.ref 1638, .int x1, .int x2, .int x3, w_4]) (S' := [.int (2 : Int32), .int x1, .ref 1638, .int (121 : Int32), .ref 1639]) 4 rfl ?_
    refine ge_cv rfl rfl rfl (t1638 s) rfl rfl rfl (D := 2) (Nat.le_trans (by decide) hd) (c_Mo_of (n := n) (u := u) (t := t) (i := i_15) (r := r) s x1 (2 : Int32)) ?_
    rintro v_16 -
    dsimp only [bkE, F_i0]
    refine ge_iast (jn := 121) rfl (t1639 s) (Nat.le_of_ble_eq_true rfl) lk121 (by decide) (fun i_17 => ?_)
    refine ge_run (pc' := 53) (L' := [.ref 1638, .int x1, .int x2, .int x3, w_4]) (S' := [.ref 1638]) 1 rfl ?_
    refine ge_getR (b := 1639) rfl (t1638 s) rfl (r1638_1 s) (Nat.le_of_ble_eq_true rfl) ?_
    refine ge_run (pc' := 57) (L' := [.ref 1638, .int x1, .int x2, .int x3, w_4]) (S' := [.ref 1638, .int (60 : Int32), .int (9 : Int32), .ref 1639]) 3 rfl ?_
    refine ge_getR (b := 1639) rfl (t1638 s) rfl (r1638_1 s) (Nat.le_of_ble_eq_true rfl) ?_
    refine ge_run (pc' := 59) (L' := [.ref 1638, .int x1, .int x2, .int x3, w_4]) (S' := [.int (9 : Int32), .ref 1639, .int (60 : Int32), .int (9 : Int32), .ref 1639]) 1 rfl ?_
    refine ge_iald (jn := 9) rfl (t1639 s) lk9 (by decide) ?_
    refine ge_run (pc' := 62) (L' := [.ref 1638, .int x1, .int x2, .int x3, w_4]) (S' := [.int ((i_17 1639 9) + (1 : Int32)), .int (60 : Int32), .int (9 : Int32), .ref 1639]) 2 rfl ?_
    refine ge_cs rfl rfl rfl rfl rfl rfl (D := 1) (Nat.le_trans (by decide) hd) (c_J_min (n := n) (u := u) (t := t) (i := i_17) (r := r) s (60 : Int32) ((i_17 1639 9) + (1 : Int32))) ?_
    rintro v_18 -
    dsimp only [bkE, F_i0]
    refine ge_iast (jn := 9) rfl (t1639 s) (Nat.le_of_ble_eq_true rfl) lk9 (by decide) (fun i_19 => ?_)
    exact ge_retv rfl rfl (And.intro rfl trivial)
def f_Mo_isNowIn (i : MI) (x1 : Int32) (x2 : Int32) (x3 : Int32) : Option (MI) :=
  (f_Mo_fishAt x1 (3 : Int32)).bind (fun v_1 => grd v_1 2115 (bnd (wr i 1639 (ix v_1) x2) (fun i_4 => (f_Mo_fishAt x1 (4 : Int32)).bind (fun v_5 => grd v_5 2115 (bnd (wr i_4 1639 (ix v_5) x3) (fun i_8 => some i_8))))))
set_option maxHeartbeats 4000000 in
theorem c_Mo_isNowIn {n u : Nat} {t : MT} {i : MI} {r : MR} (s : Sh n t r) (x1 : Int32) (x2 : Int32) (x3 : Int32) : Cn 2 264 [.ref 1638, .int x1, .int x2, .int x3] (n, u, t, i, r) (f_Mo_isNowIn i x1 x2 x3) (F_v1 n u t r) PT := by
  refine cn_of (Y := K_Mo_isNowIn) (L0 := [.ref 1638, .int x1, .int x2, .int x3]) rfl rfl rfl ?_
  intro d hd
  unfold f_Mo_isNowIn
  refine ge_run (pc' := 1) (L' := [.ref 1638, .int x1, .int x2, .int x3]) (S' := [.ref 1638]) 1 rfl ?_
  refine ge_getR (b := 1639) rfl (t1638 s) rfl (r1638_1 s) (Nat.le_of_ble_eq_true rfl) ?_
  refine ge_run (pc' := 4) (L' := [.ref 1638, .int x1, .int x2, .int x3]) (S' := [.int (3 : Int32), .int x1, .ref 1639]) 2 rfl ?_
  refine ge_cs rfl rfl rfl rfl rfl rfl (D := 1) (Nat.le_trans (by decide) hd) (c_Mo_fishAt (n := n) (u := u) (t := t) (i := i) (r := r) s x1 (3 : Int32)) ?_
  rintro v_1 -
  dsimp only [bkE, F_i0]
  refine ge_run (pc' := 6) (L' := [.ref 1638, .int x1, .int x2, .int x3]) (S' := [.int x2, .int v_1, .ref 1639]) 1 rfl ?_
  refine ge_grd (fun g_2 g_3 => ?_)
  refine ge_iast (jn := (ix v_1)) rfl (t1639 s) (Nat.le_of_ble_eq_true rfl) ⟨g_2, rfl⟩ g_3 (fun i_4 => ?_)
  refine ge_run (pc' := 8) (L' := [.ref 1638, .int x1, .int x2, .int x3]) (S' := [.ref 1638]) 1 rfl ?_
  refine ge_getR (b := 1639) rfl (t1638 s) rfl (r1638_1 s) (Nat.le_of_ble_eq_true rfl) ?_
  refine ge_run (pc' := 11) (L' := [.ref 1638, .int x1, .int x2, .int x3]) (S' := [.int (4 : Int32), .int x1, .ref 1639]) 2 rfl ?_
  refine ge_cs rfl rfl rfl rfl rfl rfl (D := 1) (Nat.le_trans (by decide) hd) (c_Mo_fishAt (n := n) (u := u) (t := t) (i := i_4) (r := r) s x1 (4 : Int32)) ?_
  rintro v_5 -
  dsimp only [bkE, F_i0]
  refine ge_run (pc' := 13) (L' := [.ref 1638, .int x1, .int x2, .int x3]) (S' := [.int x3, .int v_5, .ref 1639]) 1 rfl ?_
  refine ge_grd (fun g_6 g_7 => ?_)
  refine ge_iast (jn := (ix v_5)) rfl (t1639 s) (Nat.le_of_ble_eq_true rfl) ⟨g_6, rfl⟩ g_7 (fun i_8 => ?_)
  exact ge_retv rfl rfl (And.intro rfl trivial)
def f_Mo_goesOneOn (i : MI) (x1 : Int32) : Option (MI) :=
  (f_Mo_ofBoat i x1 (1 : Int32)).bind (fun v_1 => (f_Mo_ofBoat i x1 (0 : Int32)).bind (fun v_2 => if v_1 = (-1 : Int32) then (some i) else ((if (rm v_1 (5 : Int32)) = (rm v_2 (5 : Int32)) then (if v_1 = v_2 then (some v_2) else ((if v_2 < v_1 then (some (5 : Int32)) else (some (-5 : Int32)) : Option (Int32)).bind (fun y_9 => some (v_2 + y_9)))) else ((if (rm v_2 (5 : Int32)) < (rm v_1 (5 : Int32)) then (some (1 : Int32)) else (some (-1 : Int32)) : Option (Int32)).bind (fun y_13 => some (v_2 + y_13))) : Option (Int32)).bind (fun x3_5 => (f_Mo_boatAt x1 (0 : Int32)).bind (fun v_16 => grd v_16 2115 (bnd (wr i 1639 (ix v_16) x3_5) (fun i_19 => (f_Mo_boatAt x1 (1 : Int32)).bind (fun v_20 => if x3_5 = v_1 then (grd v_20 2115 (bnd (wr i_19 1639 (ix v_20) (-1 : Int32)) (fun i_24 => some i_24))) else (grd v_20 2115 (bnd (wr i_19 1639 (ix v_20) v_1) (fun i_28 => some i_28)))))))))))
set_option maxHeartbeats 4000000 in
theorem c_Mo_goesOneOn {n u : Nat} {t : MT} {i : MI} {r : MR} (s : Sh n t r) (x1 : Int32) : Cn 3 265 [.ref 1638, .int x1] (n, u, t, i, r) (f_Mo_goesOneOn i x1) (F_v1 n u t r) PT := by
  refine cn_of (Y := K_Mo_goesOneOn) (L0 := [.ref 1638, .int x1, uV, uV]) rfl rfl rfl ?_
  intro d hd
  unfold f_Mo_goesOneOn
  refine ge_run (pc' := 3) (L' := [.ref 1638, .int x1, uV, uV]) (S' := [.int (1 : Int32), .int x1, .ref 1638]) 3 rfl ?_
  refine ge_cv rfl rfl rfl (t1638 s) rfl rfl rfl (D := 2) (Nat.le_trans (by decide) hd) (c_Mo_ofBoat (n := n) (u := u) (t := t) (i := i) (r := r) s x1 (1 : Int32)) ?_
  rintro v_1 -
  dsimp only [bkE, F_i0]
  refine ge_run (pc' := 8) (L' := [.ref 1638, .int x1, .int v_1, uV]) (S' := [.int (0 : Int32), .int x1, .ref 1638]) 4 rfl ?_
  refine ge_cv rfl rfl rfl (t1638 s) rfl rfl rfl (D := 2) (Nat.le_trans (by decide) hd) (c_Mo_ofBoat (n := n) (u := u) (t := t) (i := i) (r := r) s x1 (0 : Int32)) ?_
  rintro v_2 -
  dsimp only [bkE, F_i0]
  refine ge_run (pc' := 12) (L' := [.ref 1638, .int x1, .int v_1, .int v_2]) (S' := [.int (-1 : Int32), .int v_1]) 3 rfl ?_
  refine ge_ne rfl (fun h_3 => ?_) (fun h_4 => ?_)
  · exact ge_retv rfl rfl (And.intro rfl trivial)
  · refine ge_run (pc' := 16) (L' := [.ref 1638, .int x1, .int v_1, .int v_2]) (S' := [.int (5 : Int32), .int v_1]) 2 rfl ?_
    refine ge_rem rfl (by decide) ?_
    refine ge_run (pc' := 19) (L' := [.ref 1638, .int x1, .int v_1, .int v_2]) (S' := [.int (5 : Int32), .int v_2, .int (rm v_1 (5 : Int32))]) 2 rfl ?_
    refine ge_rem rfl (by decide) ?_
    refine ge_bind (K1 := fun (q : Int32) e => e = .inl (47, [.ref 1638, .int x1, .int v_1, .int q], [], (n, u, t, i, r))) ?_ ?_
    · refine ge_eq rfl (fun h_6 => ?_) (fun h_12 => ?_)
      · refine ge_run (pc' := 37) (L' := [.ref 1638, .int x1, .int v_1, .int v_2]) (S' := [.int v_2, .int v_1]) 2 rfl ?_
        refine ge_eq rfl (fun h_7 => ?_) (fun h_8 => ?_)
        · exact ge_leaf rfl
        · refine ge_run (pc' := 41) (L' := [.ref 1638, .int x1, .int v_1, .int v_2]) (S' := [.int v_2, .int v_1, .int v_2]) 3 rfl ?_
          refine ge_bind (K1 := fun (q : Int32) e => e = .inl (45, [.ref 1638, .int x1, .int v_1, .int v_2], [.int q, .int v_2], (n, u, t, i, r))) ?_ ?_
          · refine ge_le rfl (fun h_10 => ?_) (fun h_11 => ?_)
            · refine ge_run (pc' := 45) (L' := [.ref 1638, .int x1, .int v_1, .int v_2]) (S' := [.int (5 : Int32), .int v_2]) 2 rfl ?_
              exact ge_leaf rfl
            · refine ge_run (pc' := 45) (L' := [.ref 1638, .int x1, .int v_1, .int v_2]) (S' := [.int (-5 : Int32), .int v_2]) 1 rfl ?_
              exact ge_leaf rfl
          · rintro y_9 _ rfl
            try dsimp only
            refine ge_run (pc' := 47) (L' := [.ref 1638, .int x1, .int v_1, .int (v_2 + y_9)]) (S' := []) 2 rfl ?_
            exact ge_leaf rfl
      · refine ge_run (pc' := 24) (L' := [.ref 1638, .int x1, .int v_1, .int v_2]) (S' := [.int (5 : Int32), .int v_1, .int v_2]) 3 rfl ?_
        refine ge_rem rfl (by decide) ?_
        refine ge_run (pc' := 27) (L' := [.ref 1638, .int x1, .int v_1, .int v_2]) (S' := [.int (5 : Int32), .int v_2, .int (rm v_1 (5 : Int32)), .int v_2]) 2 rfl ?_
        refine ge_rem rfl (by decide) ?_
        refine ge_bind (K1 := fun (q : Int32) e => e = .inl (32, [.ref 1638, .int x1, .int v_1, .int v_2], [.int q, .int v_2], (n, u, t, i, r))) ?_ ?_
        · refine ge_le rfl (fun h_14 => ?_) (fun h_15 => ?_)
          · refine ge_run (pc' := 32) (L' := [.ref 1638, .int x1, .int v_1, .int v_2]) (S' := [.int (1 : Int32), .int v_2]) 2 rfl ?_
            exact ge_leaf rfl
          · refine ge_run (pc' := 32) (L' := [.ref 1638, .int x1, .int v_1, .int v_2]) (S' := [.int (-1 : Int32), .int v_2]) 1 rfl ?_
            exact ge_leaf rfl
        · rintro y_13 _ rfl
          try dsimp only
          refine ge_run (pc' := 47) (L' := [.ref 1638, .int x1, .int v_1, .int (v_2 + y_13)]) (S' := []) 3 rfl ?_
          exact ge_leaf rfl
    · rintro x3_5 _ rfl
      try dsimp only
      refine ge_run (pc' := 48) (L' := [.ref 1638, .int x1, .int v_1, .int x3_5]) (S' := [.ref 1638]) 1 rfl ?_
      refine ge_getR (b := 1639) rfl (t1638 s) rfl (r1638_1 s) (Nat.le_of_ble_eq_true rfl) ?_
      refine ge_run (pc' := 51) (L' := [.ref 1638, .int x1, .int v_1, .int x3_5]) (S' := [.int (0 : Int32), .int x1, .ref 1639]) 2 rfl ?_
      refine ge_cs rfl rfl rfl rfl rfl rfl (D := 1) (Nat.le_trans (by decide) hd) (c_Mo_boatAt (n := n) (u := u) (t := t) (i := i) (r := r) s x1 (0 : Int32)) ?_
      rintro v_16 -
      dsimp only [bkE, F_i0]
      refine ge_run (pc' := 53) (L' := [.ref 1638, .int x1, .int v_1, .int x3_5]) (S' := [.int x3_5, .int v_16, .ref 1639]) 1 rfl ?_
      refine ge_grd (fun g_17 g_18 => ?_)
      refine ge_iast (jn := (ix v_16)) rfl (t1639 s) (Nat.le_of_ble_eq_true rfl) ⟨g_17, rfl⟩ g_18 (fun i_19 => ?_)
      refine ge_run (pc' := 55) (L' := [.ref 1638, .int x1, .int v_1, .int x3_5]) (S' := [.ref 1638]) 1 rfl ?_
      refine ge_getR (b := 1639) rfl (t1638 s) rfl (r1638_1 s) (Nat.le_of_ble_eq_true rfl) ?_
      refine ge_run (pc' := 58) (L' := [.ref 1638, .int x1, .int v_1, .int x3_5]) (S' := [.int (1 : Int32), .int x1, .ref 1639]) 2 rfl ?_
      refine ge_cs rfl rfl rfl rfl rfl rfl (D := 1) (Nat.le_trans (by decide) hd) (c_Mo_boatAt (n := n) (u := u) (t := t) (i := i_19) (r := r) s x1 (1 : Int32)) ?_
      rintro v_20 -
      dsimp only [bkE, F_i0]
      refine ge_run (pc' := 61) (L' := [.ref 1638, .int x1, .int v_1, .int x3_5]) (S' := [.int v_1, .int x3_5, .int v_20, .ref 1639]) 2 rfl ?_
      refine ge_ne rfl (fun h_21 => ?_) (fun h_25 => ?_)
      · refine ge_run (pc' := 65) (L' := [.ref 1638, .int x1, .int v_1, .int x3_5]) (S' := [.int (-1 : Int32), .int v_20, .ref 1639]) 2 rfl ?_
        refine ge_grd (fun g_22 g_23 => ?_)
        refine ge_iast (jn := (ix v_20)) rfl (t1639 s) (Nat.le_of_ble_eq_true rfl) ⟨g_22, rfl⟩ g_23 (fun i_24 => ?_)
        exact ge_retv rfl rfl (And.intro rfl trivial)
      · refine ge_run (pc' := 65) (L' := [.ref 1638, .int x1, .int v_1, .int x3_5]) (S' := [.int v_1, .int v_20, .ref 1639]) 1 rfl ?_
        refine ge_grd (fun g_26 g_27 => ?_)
        refine ge_iast (jn := (ix v_20)) rfl (t1639 s) (Nat.le_of_ble_eq_true rfl) ⟨g_26, rfl⟩ g_27 (fun i_28 => ?_)
        exact ge_retv rfl rfl (And.intro rfl trivial)
def f_Mo_catchesAll (i : MI) (x1 : Int32) : Option (MI) :=
  (itr (σ := Int32 × MI) (ρ := MI) (fun (x2_1, i_2) => (f_Mo_fishes i_2).bind (fun v_5 => if x2_1 < v_5 then ((f_Mo_of i_2 x2_1 (3 : Int32)).bind (fun v_7 => (if v_7 = 0 then ((f_Mo_of i_2 x2_1 (4 : Int32)).bind (fun v_10 => (f_Mo_ofBoat i_2 x1 (0 : Int32)).bind (fun v_11 => if v_10 = v_11 then ((f_Mo_aboard i_2 x1).bind (fun v_13 => (f_J_bitCount v_13).bind (fun v_14 => (f_Mo_ofBoat i_2 x1 (2 : Int32)).bind (fun v_15 => if v_14 < v_15 then ((f_Mo_isNowIn i_2 x2_1 (1 : Int32) x1).bind (fun i_17 => (f_Mo_isTold i_17 x2_1 (0 : Int32) x1).bind (fun i_18 => some i_18))) else (some i_2))))) else (some i_2)))) else (some i_2) : Option (MI)).bind (fun i_8 => some (.inl ((x2_1 + (1 : Int32)), i_8))))) else (some (.inr i_2)))) 1000000 ((0 : Int32), i)).bind (fun i_3 => (f_Mo_ofBoat i_3 x1 (0 : Int32)).bind (fun v_23 => if v_23 = 0 then ((itr (σ := Int32 × MI) (ρ := MI) (fun (x2_25, i_26) => (f_Mo_fishes i_26).bind (fun v_29 => if x2_25 < v_29 then ((f_Mo_of i_26 x2_25 (3 : Int32)).bind (fun v_31 => (if v_31 = (1 : Int32) then ((f_Mo_of i_26 x2_25 (4 : Int32)).bind (fun v_34 => if v_34 = x1 then ((f_Mo_isNowIn i_26 x2_25 (2 : Int32) (0 : Int32)).bind (fun i_36 => some i_36)) else (some i_26))) else (some i_26) : Option (MI)).bind (fun i_32 => some (.inl ((x2_25 + (1 : Int32)), i_32))))) else (some (.inr i_26)))) 1000000 ((0 : Int32), i_3)).bind (fun i_27 => some i_27)) else (some i_3)))
set_option maxHeartbeats 4000000 in
theorem c_Mo_catchesAll {n u : Nat} {t : MT} {i : MI} {r : MR} (s : Sh n t r) (x1 : Int32) : Cn 4 266 [.ref 1638, .int x1] (n, u, t, i, r) (f_Mo_catchesAll i x1) (F_v1 n u t r) PT := by
  refine cn_of (Y := K_Mo_catchesAll) (L0 := [.ref 1638, .int x1, uV]) rfl rfl rfl ?_
  intro d hd
  unfold f_Mo_catchesAll
  refine ge_run (pc' := 2) (L' := [.ref 1638, .int x1, .int (0 : Int32)]) (S' := []) 2 rfl ?_
  refine ge_bind (K1 := fun (q : MI) e => ∃ w_4 : Value, e = .inl (42, [.ref 1638, .int x1, w_4], [], (n, u, t, q, r))) (ge_itr (C := fun (q : Int32 × MI) e => e = .inl (2, [.ref 1638, .int x1, .int q.1], [], (n, u, t, q.2, r))) ?_ _ _ _ rfl) ?_
  · rintro ⟨x2_1, i_2⟩ _ rfl
    try dsimp only
    refine ge_run (pc' := 4) (L' := [.ref 1638, .int x1, .int x2_1]) (S' := [.ref 1638, .int x2_1]) 2 rfl ?_
    refine ge_cv rfl rfl rfl (t1638 s) rfl rfl rfl (D := 1) (Nat.le_trans (by decide) hd) (c_Mo_fishes (n := n) (u := u) (t := t) (i := i_2) (r := r) s ) ?_
    rintro v_5 -
    dsimp only [bkE, F_i0]
    refine ge_ge rfl (fun h_6 => ?_) (fun h_22 => ?_)
    · refine ge_run (pc' := 9) (L' := [.ref 1638, .int x1, .int x2_1]) (S' := [.int (3 : Int32), .int x2_1, .ref 1638]) 3 rfl ?_
      refine ge_cv rfl rfl rfl (t1638 s) rfl rfl rfl (D := 2) (Nat.le_trans (by decide) hd) (c_Mo_of (n := n) (u := u) (t := t) (i := i_2) (r := r) s x2_1 (3 : Int32)) ?_
      rintro v_7 -
      dsimp only [bkE, F_i0]
      refine ge_bind (K1 := fun (q : MI) e => e = .inl (40, [.ref 1638, .int x1, .int x2_1], [], (n, u, t, q, r))) ?_ ?_
      · refine ge_ne0 rfl (fun h_9 => ?_) (fun h_21 => ?_)
        · refine ge_run (pc' := 14) (L' := [.ref 1638, .int x1, .int x2_1]) (S' := [.int (4 : Int32), .int x2_1, .ref 1638]) 3 rfl ?_
          refine ge_cv rfl rfl rfl (t1638 s) rfl rfl rfl (D := 2) (Nat.le_trans (by decide) hd) (c_Mo_of (n := n) (u := u) (t := t) (i := i_2) (r := r) s x2_1 (4 : Int32)) ?_
          rintro v_10 -
          dsimp only [bkE, F_i0]
          refine ge_run (pc' := 18) (L' := [.ref 1638, .int x1, .int x2_1]) (S' := [.int (0 : Int32), .int x1, .ref 1638, .int v_10]) 3 rfl ?_
          refine ge_cv rfl rfl rfl (t1638 s) rfl rfl rfl (D := 2) (Nat.le_trans (by decide) hd) (c_Mo_ofBoat (n := n) (u := u) (t := t) (i := i_2) (r := r) s x1 (0 : Int32)) ?_
          rintro v_11 -
          dsimp only [bkE, F_i0]
          refine ge_ne rfl (fun h_12 => ?_) (fun h_20 => ?_)
          · refine ge_run (pc' := 22) (L' := [.ref 1638, .int x1, .int x2_1]) (S' := [.int x1, .ref 1638]) 2 rfl ?_
            refine ge_cv rfl rfl rfl (t1638 s) rfl rfl rfl (D := 3) (Nat.le_trans (by decide) hd) (c_Mo_aboard (n := n) (u := u) (t := t) (i := i_2) (r := r) s x1) ?_
            rintro v_13 -
            dsimp only [bkE, F_i0]
            refine ge_cs rfl rfl rfl rfl rfl rfl (D := 1) (Nat.le_trans (by decide) hd) (c_J_bitCount (n := n) (u := u) (t := t) (i := i_2) (r := r) s v_13) ?_
            rintro v_14 -
            dsimp only [bkE, F_i0]
            refine ge_run (pc' := 27) (L' := [.ref 1638, .int x1, .int x2_1]) (S' := [.int (2 : Int32), .int x1, .ref 1638, .int v_14]) 3 rfl ?_
            refine ge_cv rfl rfl rfl (t1638 s) rfl rfl rfl (D := 2) (Nat.le_trans (by decide) hd) (c_Mo_ofBoat (n := n) (u := u) (t := t) (i := i_2) (r := r) s x1 (2 : Int32)) ?_
            rintro v_15 -
            dsimp only [bkE, F_i0]
            refine ge_lt rfl (fun h_16 => ?_) (fun h_19 => ?_)
            · refine ge_run (pc' := 34) (L' := [.ref 1638, .int x1, .int x2_1]) (S' := [.int x1, .int (1 : Int32), .int x2_1, .ref 1638]) 4 rfl ?_
              refine ge_cv rfl rfl rfl (t1638 s) rfl rfl rfl (D := 2) (Nat.le_trans (by decide) hd) (c_Mo_isNowIn (n := n) (u := u) (t := t) (i := i_2) (r := r) s x2_1 (1 : Int32) x1) ?_
              rintro i_17 -
              dsimp only [bkE, F_v1]
              refine ge_run (pc' := 39) (L' := [.ref 1638, .int x1, .int x2_1]) (S' := [.int x1, .int (0 : Int32), .int x2_1, .ref 1638]) 4 rfl ?_
              refine ge_cv rfl rfl rfl (t1638 s) rfl rfl rfl (D := 3) (Nat.le_trans (by decide) hd) (c_Mo_isTold (n := n) (u := u) (t := t) (i := i_17) (r := r) s x2_1 (0 : Int32) x1) ?_
              rintro i_18 -
              dsimp only [bkE, F_v1]
              exact ge_leaf rfl
            · refine ge_run (pc' := 40) (L' := [.ref 1638, .int x1, .int x2_1]) (S' := []) 1 rfl ?_
              exact ge_leaf rfl
          · exact ge_leaf rfl
        · exact ge_leaf rfl
      · rintro i_8 _ rfl
        try dsimp only
        refine ge_run (pc' := 2) (L' := [.ref 1638, .int x1, .int (x2_1 + (1 : Int32))]) (S' := []) 2 rfl ?_
        exact ge_leaf (K := kX _ _) rfl
    · exact ge_leaf (K := kX _ _) (Exists.intro _ rfl)
  · rintro i_3 _ ⟨w_4, rfl⟩
    try dsimp only
    refine ge_run (pc' := 45) (L' := [.ref 1638, .int x1, w_4]) (S' := [.int (0 : Int32), .int x1, .ref 1638]) 3 rfl ?_
    refine ge_cv rfl rfl rfl (t1638 s) rfl rfl rfl (D := 2) (Nat.le_trans (by decide) hd) (c_Mo_ofBoat (n := n) (u := u) (t := t) (i := i_3) (r := r) s x1 (0 : Int32)) ?_
    rintro v_23 -
    dsimp only [bkE, F_i0]
    refine ge_eq0 rfl (fun h_24 => ?_) (fun h_40 => ?_)
    · refine ge_run (pc' := 50) (L' := [.ref 1638, .int x1, .int (0 : Int32)]) (S' := []) 2 rfl ?_
      refine ge_bind (K1 := fun (q : MI) e => ∃ w_28 : Value, e = .inl (73, [.ref 1638, .int x1, w_28], [], (n, u, t, q, r))) (ge_itr (C := fun (q : Int32 × MI) e => e = .inl (50, [.ref 1638, .int x1, .int q.1], [], (n, u, t, q.2, r))) ?_ _ _ _ rfl) ?_
      · rintro ⟨x2_25, i_26⟩ _ rfl
        try dsimp only
        refine ge_run (pc' := 52) (L' := [.ref 1638, .int x1, .int x2_25]) (S' := [.ref 1638, .int x2_25]) 2 rfl ?_
        refine ge_cv rfl rfl rfl (t1638 s) rfl rfl rfl (D := 1) (Nat.le_trans (by decide) hd) (c_Mo_fishes (n := n) (u := u) (t := t) (i := i_26) (r := r) s ) ?_
        rintro v_29 -
        dsimp only [bkE, F_i0]
        refine ge_ge rfl (fun h_30 => ?_) (fun h_39 => ?_)
        · refine ge_run (pc' := 57) (L' := [.ref 1638, .int x1, .int x2_25]) (S' := [.int (3 : Int32), .int x2_25, .ref 1638]) 3 rfl ?_
          refine ge_cv rfl rfl rfl (t1638 s) rfl rfl rfl (D := 2) (Nat.le_trans (by decide) hd) (c_Mo_of (n := n) (u := u) (t := t) (i := i_26) (r := r) s x2_25 (3 : Int32)) ?_
          rintro v_31 -
          dsimp only [bkE, F_i0]
          refine ge_run (pc' := 59) (L' := [.ref 1638, .int x1, .int x2_25]) (S' := [.int (1 : Int32), .int v_31]) 1 rfl ?_
          refine ge_bind (K1 := fun (q : MI) e => e = .inl (71, [.ref 1638, .int x1, .int x2_25], [], (n, u, t, q, r))) ?_ ?_
          · refine ge_ne rfl (fun h_33 => ?_) (fun h_38 => ?_)
            · refine ge_run (pc' := 63) (L' := [.ref 1638, .int x1, .int x2_25]) (S' := [.int (4 : Int32), .int x2_25, .ref 1638]) 3 rfl ?_
              refine ge_cv rfl rfl rfl (t1638 s) rfl rfl rfl (D := 2) (Nat.le_trans (by decide) hd) (c_Mo_of (n := n) (u := u) (t := t) (i := i_26) (r := r) s x2_25 (4 : Int32)) ?_
              rintro v_34 -
              dsimp only [bkE, F_i0]
              refine ge_run (pc' := 65) (L' := [.ref 1638, .int x1, .int x2_25]) (S' := [.int x1, .int v_34]) 1 rfl ?_
              refine ge_ne rfl (fun h_35 => ?_) (fun h_37 => ?_)
              · refine ge_run (pc' := 70) (L' := [.ref 1638, .int x1, .int x2_25]) (S' := [.int (0 : Int32), .int (2 : Int32), .int x2_25, .ref 1638]) 4 rfl ?_
                refine ge_cv rfl rfl rfl (t1638 s) rfl rfl rfl (D := 2) (Nat.le_trans (by decide) hd) (c_Mo_isNowIn (n := n) (u := u) (t := t) (i := i_26) (r := r) s x2_25 (2 : Int32) (0 : Int32)) ?_
                rintro i_36 -
                dsimp only [bkE, F_v1]
                exact ge_leaf rfl
              · exact ge_leaf rfl
            · exact ge_leaf rfl
          · rintro i_32 _ rfl
            try dsimp only
            refine ge_run (pc' := 50) (L' := [.ref 1638, .int x1, .int (x2_25 + (1 : Int32))]) (S' := []) 2 rfl ?_
            exact ge_leaf (K := kX _ _) rfl
        · exact ge_leaf (K := kX _ _) (Exists.intro _ rfl)
      · rintro i_27 _ ⟨w_28, rfl⟩
        try dsimp only
        exact ge_retv rfl rfl (And.intro rfl trivial)
    · exact ge_retv rfl rfl (And.intro rfl trivial)
def f_Mo_allTurn (i : MI) : Option (MI) :=
  (itr (σ := Int32 × MI) (ρ := MI) (fun (x1_1, i_2) => (f_Mo_fishes i_2).bind (fun v_5 => if x1_1 < v_5 then ((f_Mo_turnsBy i_2 x1_1).bind (fun (v_7, i_8) => grd x1_1 8 (bnd (wr i_8 1647 (ix x1_1) v_7) (fun i_11 => some (.inl ((x1_1 + (1 : Int32)), i_11)))))) else (some (.inr i_2)))) 1000000 ((0 : Int32), i)).bind (fun i_3 => (itr (σ := Int32 × MI) (ρ := MI) (fun (x1_13, i_14) => (f_Mo_fishes i_14).bind (fun v_17 => if x1_13 < v_17 then ((f_Mo_of i_14 x1_13 (3 : Int32)).bind (fun v_19 => (if v_19 = (1 : Int32) then ((f_Mo_fishAt x1_13 (2 : Int32)).bind (fun v_22 => (f_Mo_of i_14 x1_13 (2 : Int32)).bind (fun v_23 => grd x1_13 8 ((f_J_max (0 : Int32) (v_23 - (i_14 1647 (ix x1_13)))).bind (fun v_26 => grd v_22 2115 (bnd (wr i_14 1639 (ix v_22) v_26) (fun i_29 => (f_Mo_of i_29 x1_13 (2 : Int32)).bind (fun v_30 => if 0 < v_30 then (some i_29) else ((f_Mo_isNowIn i_29 x1_13 (3 : Int32) (0 : Int32)).bind (fun i_33 => (f_Mo_isTold i_33 x1_13 (1 : Int32) (-1 : Int32)).bind (fun i_34 => some i_34))))))))))) else ((f_Mo_of i_14 x1_13 (3 : Int32)).bind (fun v_36 => if v_36 = (2 : Int32) then ((f_Mo_fishAt x1_13 (2 : Int32)).bind (fun v_38 => (f_Mo_of i_14 x1_13 (2 : Int32)).bind (fun v_39 => grd x1_13 8 ((f_J_max (0 : Int32) (v_39 - (i_14 1647 (ix x1_13)))).bind (fun v_42 => grd v_38 2115 (bnd (wr i_14 1639 (ix v_38) v_42) (fun i_45 => (f_Mo_of i_45 x1_13 (2 : Int32)).bind (fun v_46 => if 0 < v_46 then (some i_45) else ((f_Mo_isNowIn i_45 x1_13 (3 : Int32) (0 : Int32)).bind (fun i_49 => (f_Mo_isTold i_49 x1_13 (1 : Int32) (-1 : Int32)).bind (fun i_50 => some i_50))))))))))) else (some i_14))) : Option (MI)).bind (fun i_20 => some (.inl ((x1_13 + (1 : Int32)), i_20))))) else (some (.inr i_14)))) 1000000 ((0 : Int32), i_3)).bind (fun i_15 => some i_15))
set_option maxHeartbeats 4000000 in
theorem c_Mo_allTurn {n u : Nat} {t : MT} {i : MI} {r : MR} (s : Sh n t r)  : Cn 8 267 [.ref 1638] (n, u, t, i, r) (f_Mo_allTurn i ) (F_v1 n u t r) PT := by
  refine cn_of (Y := K_Mo_allTurn) (L0 := [.ref 1638, uV]) rfl rfl rfl ?_
  intro d hd
  unfold f_Mo_allTurn
  refine ge_run (pc' := 2) (L' := [.ref 1638, .int (0 : Int32)]) (S' := []) 2 rfl ?_
  refine ge_bind (K1 := fun (q : MI) e => ∃ w_4 : Value, e = .inl (15, [.ref 1638, w_4], [], (n, u, t, q, r))) (ge_itr (C := fun (q : Int32 × MI) e => e = .inl (2, [.ref 1638, .int q.1], [], (n, u, t, q.2, r))) ?_ _ _ _ rfl) ?_
  · rintro ⟨x1_1, i_2⟩ _ rfl
    try dsimp only
    refine ge_run (pc' := 4) (L' := [.ref 1638, .int x1_1]) (S' := [.ref 1638, .int x1_1]) 2 rfl ?_
    refine ge_cv rfl rfl rfl (t1638 s) rfl rfl rfl (D := 1) (Nat.le_trans (by decide) hd) (c_Mo_fishes (n := n) (u := u) (t := t) (i := i_2) (r := r) s ) ?_
    rintro v_5 -
    dsimp only [bkE, F_i0]
    refine ge_ge rfl (fun h_6 => ?_) (fun h_12 => ?_)
    · refine ge_run (pc' := 7) (L' := [.ref 1638, .int x1_1]) (S' := [.ref 1638]) 1 rfl ?_
      refine ge_getR (b := 1647) rfl (t1638 s) rfl (r1638_18 s) (Nat.le_of_ble_eq_true rfl) ?_
      refine ge_run (pc' := 11) (L' := [.ref 1638, .int x1_1]) (S' := [.int x1_1, .ref 1638, .int x1_1, .ref 1647]) 3 rfl ?_
      refine ge_cv rfl rfl rfl (t1638 s) rfl rfl rfl (D := 7) (Nat.le_trans (by decide) hd) (c_Mo_turnsBy (n := n) (u := u) (t := t) (i := i_2) (r := r) s x1_1) ?_
      rintro ⟨v_7, i_8⟩ -
      dsimp only [bkE, F_i1]
      refine ge_grd (fun g_9 g_10 => ?_)
      refine ge_iast (jn := (ix x1_1)) rfl (t1647 s) (Nat.le_of_ble_eq_true rfl) ⟨g_9, rfl⟩ g_10 (fun i_11 => ?_)
      refine ge_run (pc' := 2) (L' := [.ref 1638, .int (x1_1 + (1 : Int32))]) (S' := []) 2 rfl ?_
      exact ge_leaf (K := kX _ _) rfl
    · exact ge_leaf (K := kX _ _) (Exists.intro _ rfl)
  · rintro i_3 _ ⟨w_4, rfl⟩
    try dsimp only
    refine ge_run (pc' := 17) (L' := [.ref 1638, .int (0 : Int32)]) (S' := []) 2 rfl ?_
    refine ge_bind (K1 := fun (q : MI) e => ∃ w_16 : Value, e = .inl (69, [.ref 1638, w_16], [], (n, u, t, q, r))) (ge_itr (C := fun (q : Int32 × MI) e => e = .inl (17, [.ref 1638, .int q.1], [], (n, u, t, q.2, r))) ?_ _ _ _ rfl) ?_
    · rintro ⟨x1_13, i_14⟩ _ rfl
      try dsimp only
      refine ge_run (pc' := 19) (L' := [.ref 1638, .int x1_13]) (S' := [.ref 1638, .int x1_13]) 2 rfl ?_
      refine ge_cv rfl rfl rfl (t1638 s) rfl rfl rfl (D := 1) (Nat.le_trans (by decide) hd) (c_Mo_fishes (n := n) (u := u) (t := t) (i := i_14) (r := r) s ) ?_
      rintro v_17 -
      dsimp only [bkE, F_i0]
      refine ge_ge rfl (fun h_18 => ?_) (fun h_52 => ?_)
      · refine ge_run (pc' := 24) (L' := [.ref 1638, .int x1_13]) (S' := [.int (3 : Int32), .int x1_13, .ref 1638]) 3 rfl ?_
        refine ge_cv rfl rfl rfl (t1638 s) rfl rfl rfl (D := 2) (Nat.le_trans (by decide) hd) (c_Mo_of (n := n) (u := u) (t := t) (i := i_14) (r := r) s x1_13 (3 : Int32)) ?_
        rintro v_19 -
        dsimp only [bkE, F_i0]
        refine ge_run (pc' := 26) (L' := [.ref 1638, .int x1_13]) (S' := [.int (1 : Int32), .int v_19]) 1 rfl ?_
        refine ge_bind (K1 := fun (q : MI) e => e = .inl (67, [.ref 1638, .int x1_13], [], (n, u, t, q, r))) ?_ ?_
        · refine ge_eq rfl (fun h_21 => ?_) (fun h_35 => ?_)
          · refine ge_run (pc' := 35) (L' := [.ref 1638, .int x1_13]) (S' := [.ref 1638]) 1 rfl ?_
            refine ge_getR (b := 1639) rfl (t1638 s) rfl (r1638_1 s) (Nat.le_of_ble_eq_true rfl) ?_
            refine ge_run (pc' := 38) (L' := [.ref 1638, .int x1_13]) (S' := [.int (2 : Int32), .int x1_13, .ref 1639]) 2 rfl ?_
            refine ge_cs rfl rfl rfl rfl rfl rfl (D := 1) (Nat.le_trans (by decide) hd) (c_Mo_fishAt (n := n) (u := u) (t := t) (i := i_14) (r := r) s x1_13 (2 : Int32)) ?_
            rintro v_22 -
            dsimp only [bkE, F_i0]
            refine ge_run (pc' := 43) (L' := [.ref 1638, .int x1_13]) (S' := [.int (2 : Int32), .int x1_13, .ref 1638, .int (0 : Int32), .int v_22, .ref 1639]) 4 rfl ?_
            refine ge_cv rfl rfl rfl (t1638 s) rfl rfl rfl (D := 2) (Nat.le_trans (by decide) hd) (c_Mo_of (n := n) (u := u) (t := t) (i := i_14) (r := r) s x1_13 (2 : Int32)) ?_
            rintro v_23 -
            dsimp only [bkE, F_i0]
            refine ge_run (pc' := 45) (L' := [.ref 1638, .int x1_13]) (S' := [.ref 1638, .int v_23, .int (0 : Int32), .int v_22, .ref 1639]) 1 rfl ?_
            refine ge_getR (b := 1647) rfl (t1638 s) rfl (r1638_18 s) (Nat.le_of_ble_eq_true rfl) ?_
            refine ge_run (pc' := 47) (L' := [.ref 1638, .int x1_13]) (S' := [.int x1_13, .ref 1647, .int v_23, .int (0 : Int32), .int v_22, .ref 1639]) 1 rfl ?_
            refine ge_grd (fun g_24 g_25 => ?_)
            refine ge_iald (jn := (ix x1_13)) rfl (t1647 s) ⟨g_24, rfl⟩ g_25 ?_
            refine ge_run (pc' := 49) (L' := [.ref 1638, .int x1_13]) (S' := [.int (v_23 - (i_14 1647 (ix x1_13))), .int (0 : Int32), .int v_22, .ref 1639]) 1 rfl ?_
            refine ge_cs rfl rfl rfl rfl rfl rfl (D := 1) (Nat.le_trans (by decide) hd) (c_J_max (n := n) (u := u) (t := t) (i := i_14) (r := r) s (0 : Int32) (v_23 - (i_14 1647 (ix x1_13)))) ?_
            rintro v_26 -
            dsimp only [bkE, F_i0]
            refine ge_grd (fun g_27 g_28 => ?_)
            refine ge_iast (jn := (ix v_22)) rfl (t1639 s) (Nat.le_of_ble_eq_true rfl) ⟨g_27, rfl⟩ g_28 (fun i_29 => ?_)
            refine ge_run (pc' := 54) (L' := [.ref 1638, .int x1_13]) (S' := [.int (2 : Int32), .int x1_13, .ref 1638]) 3 rfl ?_
            refine ge_cv rfl rfl rfl (t1638 s) rfl rfl rfl (D := 2) (Nat.le_trans (by decide) hd) (c_Mo_of (n := n) (u := u) (t := t) (i := i_29) (r := r) s x1_13 (2 : Int32)) ?_
            rintro v_30 -
            dsimp only [bkE, F_i0]
            refine ge_le0 rfl (fun h_31 => ?_) (fun h_32 => ?_)
            · refine ge_run (pc' := 67) (L' := [.ref 1638, .int x1_13]) (S' := []) 1 rfl ?_
              exact ge_leaf rfl
            · refine ge_run (pc' := 61) (L' := [.ref 1638, .int x1_13]) (S' := [.int (0 : Int32), .int (3 : Int32), .int x1_13, .ref 1638]) 4 rfl ?_
              refine ge_cv rfl rfl rfl (t1638 s) rfl rfl rfl (D := 2) (Nat.le_trans (by decide) hd) (c_Mo_isNowIn (n := n) (u := u) (t := t) (i := i_29) (r := r) s x1_13 (3 : Int32) (0 : Int32)) ?_
              rintro i_33 -
              dsimp only [bkE, F_v1]
              refine ge_run (pc' := 66) (L' := [.ref 1638, .int x1_13]) (S' := [.int (-1 : Int32), .int (1 : Int32), .int x1_13, .ref 1638]) 4 rfl ?_
              refine ge_cv rfl rfl rfl (t1638 s) rfl rfl rfl (D := 3) (Nat.le_trans (by decide) hd) (c_Mo_isTold (n := n) (u := u) (t := t) (i := i_33) (r := r) s x1_13 (1 : Int32) (-1 : Int32)) ?_
              rintro i_34 -
              dsimp only [bkE, F_v1]
              exact ge_leaf rfl
          · refine ge_run (pc' := 30) (L' := [.ref 1638, .int x1_13]) (S' := [.int (3 : Int32), .int x1_13, .ref 1638]) 3 rfl ?_
            refine ge_cv rfl rfl rfl (t1638 s) rfl rfl rfl (D := 2) (Nat.le_trans (by decide) hd) (c_Mo_of (n := n) (u := u) (t := t) (i := i_14) (r := r) s x1_13 (3 : Int32)) ?_
            rintro v_36 -
            dsimp only [bkE, F_i0]
            refine ge_run (pc' := 32) (L' := [.ref 1638, .int x1_13]) (S' := [.int (2 : Int32), .int v_36]) 1 rfl ?_
            refine ge_eq rfl (fun h_37 => ?_) (fun h_51 => ?_)
            · refine ge_run (pc' := 35) (L' := [.ref 1638, .int x1_13]) (S' := [.ref 1638]) 1 rfl ?_
              refine ge_getR (b := 1639) rfl (t1638 s) rfl (r1638_1 s) (Nat.le_of_ble_eq_true rfl) ?_
              refine ge_run (pc' := 38) (L' := [.ref 1638, .int x1_13]) (S' := [.int (2 : Int32), .int x1_13, .ref 1639]) 2 rfl ?_
              refine ge_cs rfl rfl rfl rfl rfl rfl (D := 1) (Nat.le_trans (by decide) hd) (c_Mo_fishAt (n := n) (u := u) (t := t) (i := i_14) (r := r) s x1_13 (2 : Int32)) ?_
              rintro v_38 -
              dsimp only [bkE, F_i0]
              refine ge_run (pc' := 43) (L' := [.ref 1638, .int x1_13]) (S' := [.int (2 : Int32), .int x1_13, .ref 1638, .int (0 : Int32), .int v_38, .ref 1639]) 4 rfl ?_
              refine ge_cv rfl rfl rfl (t1638 s) rfl rfl rfl (D := 2) (Nat.le_trans (by decide) hd) (c_Mo_of (n := n) (u := u) (t := t) (i := i_14) (r := r) s x1_13 (2 : Int32)) ?_
              rintro v_39 -
              dsimp only [bkE, F_i0]
              refine ge_run (pc' := 45) (L' := [.ref 1638, .int x1_13]) (S' := [.ref 1638, .int v_39, .int (0 : Int32), .int v_38, .ref 1639]) 1 rfl ?_
              refine ge_getR (b := 1647) rfl (t1638 s) rfl (r1638_18 s) (Nat.le_of_ble_eq_true rfl) ?_
              refine ge_run (pc' := 47) (L' := [.ref 1638, .int x1_13]) (S' := [.int x1_13, .ref 1647, .int v_39, .int (0 : Int32), .int v_38, .ref 1639]) 1 rfl ?_
              refine ge_grd (fun g_40 g_41 => ?_)
              refine ge_iald (jn := (ix x1_13)) rfl (t1647 s) ⟨g_40, rfl⟩ g_41 ?_
              refine ge_run (pc' := 49) (L' := [.ref 1638, .int x1_13]) (S' := [.int (v_39 - (i_14 1647 (ix x1_13))), .int (0 : Int32), .int v_38, .ref 1639]) 1 rfl ?_
              refine ge_cs rfl rfl rfl rfl rfl rfl (D := 1) (Nat.le_trans (by decide) hd) (c_J_max (n := n) (u := u) (t := t) (i := i_14) (r := r) s (0 : Int32) (v_39 - (i_14 1647 (ix x1_13)))) ?_
              rintro v_42 -
              dsimp only [bkE, F_i0]
              refine ge_grd (fun g_43 g_44 => ?_)
              refine ge_iast (jn := (ix v_38)) rfl (t1639 s) (Nat.le_of_ble_eq_true rfl) ⟨g_43, rfl⟩ g_44 (fun i_45 => ?_)
              refine ge_run (pc' := 54) (L' := [.ref 1638, .int x1_13]) (S' := [.int (2 : Int32), .int x1_13, .ref 1638]) 3 rfl ?_
              refine ge_cv rfl rfl rfl (t1638 s) rfl rfl rfl (D := 2) (Nat.le_trans (by decide) hd) (c_Mo_of (n := n) (u := u) (t := t) (i := i_45) (r := r) s x1_13 (2 : Int32)) ?_
              rintro v_46 -
              dsimp only [bkE, F_i0]
              refine ge_le0 rfl (fun h_47 => ?_) (fun h_48 => ?_)
              · refine ge_run (pc' := 67) (L' := [.ref 1638, .int x1_13]) (S' := []) 1 rfl ?_
                exact ge_leaf rfl
              · refine ge_run (pc' := 61) (L' := [.ref 1638, .int x1_13]) (S' := [.int (0 : Int32), .int (3 : Int32), .int x1_13, .ref 1638]) 4 rfl ?_
                refine ge_cv rfl rfl rfl (t1638 s) rfl rfl rfl (D := 2) (Nat.le_trans (by decide) hd) (c_Mo_isNowIn (n := n) (u := u) (t := t) (i := i_45) (r := r) s x1_13 (3 : Int32) (0 : Int32)) ?_
                rintro i_49 -
                dsimp only [bkE, F_v1]
                refine ge_run (pc' := 66) (L' := [.ref 1638, .int x1_13]) (S' := [.int (-1 : Int32), .int (1 : Int32), .int x1_13, .ref 1638]) 4 rfl ?_
                refine ge_cv rfl rfl rfl (t1638 s) rfl rfl rfl (D := 3) (Nat.le_trans (by decide) hd) (c_Mo_isTold (n := n) (u := u) (t := t) (i := i_49) (r := r) s x1_13 (1 : Int32) (-1 : Int32)) ?_
                rintro i_50 -
                dsimp only [bkE, F_v1]
                exact ge_leaf rfl
            · refine ge_run (pc' := 67) (L' := [.ref 1638, .int x1_13]) (S' := []) 1 rfl ?_
              exact ge_leaf rfl
        · rintro i_20 _ rfl
          try dsimp only
          refine ge_run (pc' := 17) (L' := [.ref 1638, .int (x1_13 + (1 : Int32))]) (S' := []) 2 rfl ?_
          exact ge_leaf (K := kX _ _) rfl
      · exact ge_leaf (K := kX _ _) (Exists.intro _ rfl)
    · rintro i_15 _ ⟨w_16, rfl⟩
      try dsimp only
      exact ge_retv rfl rfl (And.intro rfl trivial)
def f_Mo_suits (i : MI) (x1 : Int32) (x2 : Int32) : Option (Int32 × MI) :=
  (f_Mo_of i x2 (3 : Int32)).bind (fun v_1 => if v_1 = (2 : Int32) then ((f_Mo_of i x2 (0 : Int32)).bind (fun v_3 => (f_Mo_ofBuyer i x1 (0 : Int32)).bind (fun v_4 => if v_3 = v_4 then ((f_Mo_of i x2 (2 : Int32)).bind (fun v_6 => (f_Mo_ofBuyer i x1 (2 : Int32)).bind (fun v_7 => if v_6 < v_7 then (some ((0 : Int32), i)) else ((f_Mo_priceOf i x2).bind (fun (v_10, i_11) => (f_Mo_ofBuyer i_11 x1 (1 : Int32)).bind (fun v_12 => if v_12 < v_10 then (some ((0 : Int32), i_11)) else (some ((1 : Int32), i_11)))))))) else (some ((0 : Int32), i))))) else (some ((0 : Int32), i)))
set_option maxHeartbeats 4000000 in
theorem c_Mo_suits {n u : Nat} {t : MT} {i : MI} {r : MR} (s : Sh n t r) (x1 : Int32) (x2 : Int32) : Cn 8 268 [.ref 1638, .int x1, .int x2] (n, u, t, i, r) (f_Mo_suits i x1 x2) (F_i1 n u t r) PT := by
  refine cn_of (Y := K_Mo_suits) (L0 := [.ref 1638, .int x1, .int x2]) rfl rfl rfl ?_
  intro d hd
  unfold f_Mo_suits
  refine ge_run (pc' := 3) (L' := [.ref 1638, .int x1, .int x2]) (S' := [.int (3 : Int32), .int x2, .ref 1638]) 3 rfl ?_
  refine ge_cv rfl rfl rfl (t1638 s) rfl rfl rfl (D := 2) (Nat.le_trans (by decide) hd) (c_Mo_of (n := n) (u := u) (t := t) (i := i) (r := r) s x2 (3 : Int32)) ?_
  rintro v_1 -
  dsimp only [bkE, F_i0]
  refine ge_run (pc' := 5) (L' := [.ref 1638, .int x1, .int x2]) (S' := [.int (2 : Int32), .int v_1]) 1 rfl ?_
  refine ge_ne rfl (fun h_2 => ?_) (fun h_16 => ?_)
  · refine ge_run (pc' := 9) (L' := [.ref 1638, .int x1, .int x2]) (S' := [.int (0 : Int32), .int x2, .ref 1638]) 3 rfl ?_
    refine ge_cv rfl rfl rfl (t1638 s) rfl rfl rfl (D := 2) (Nat.le_trans (by decide) hd) (c_Mo_of (n := n) (u := u) (t := t) (i := i) (r := r) s x2 (0 : Int32)) ?_
    rintro v_3 -
    dsimp only [bkE, F_i0]
    refine ge_run (pc' := 13) (L' := [.ref 1638, .int x1, .int x2]) (S' := [.int (0 : Int32), .int x1, .ref 1638, .int v_3]) 3 rfl ?_
    refine ge_cv rfl rfl rfl (t1638 s) rfl rfl rfl (D := 2) (Nat.le_trans (by decide) hd) (c_Mo_ofBuyer (n := n) (u := u) (t := t) (i := i) (r := r) s x1 (0 : Int32)) ?_
    rintro v_4 -
    dsimp only [bkE, F_i0]
    refine ge_ne rfl (fun h_5 => ?_) (fun h_15 => ?_)
    · refine ge_run (pc' := 18) (L' := [.ref 1638, .int x1, .int x2]) (S' := [.int (2 : Int32), .int x2, .ref 1638]) 3 rfl ?_
      refine ge_cv rfl rfl rfl (t1638 s) rfl rfl rfl (D := 2) (Nat.le_trans (by decide) hd) (c_Mo_of (n := n) (u := u) (t := t) (i := i) (r := r) s x2 (2 : Int32)) ?_
      rintro v_6 -
      dsimp only [bkE, F_i0]
      refine ge_run (pc' := 22) (L' := [.ref 1638, .int x1, .int x2]) (S' := [.int (2 : Int32), .int x1, .ref 1638, .int v_6]) 3 rfl ?_
      refine ge_cv rfl rfl rfl (t1638 s) rfl rfl rfl (D := 2) (Nat.le_trans (by decide) hd) (c_Mo_ofBuyer (n := n) (u := u) (t := t) (i := i) (r := r) s x1 (2 : Int32)) ?_
      rintro v_7 -
      dsimp only [bkE, F_i0]
      refine ge_lt rfl (fun h_8 => ?_) (fun h_9 => ?_)
      · refine ge_run (pc' := 35) (L' := [.ref 1638, .int x1, .int x2]) (S' := [.int (0 : Int32)]) 1 rfl ?_
        exact ge_retz rfl rfl (Or.inl rfl) (And.intro rfl trivial)
      · refine ge_run (pc' := 26) (L' := [.ref 1638, .int x1, .int x2]) (S' := [.int x2, .ref 1638]) 2 rfl ?_
        refine ge_cv rfl rfl rfl (t1638 s) rfl rfl rfl (D := 7) (Nat.le_trans (by decide) hd) (c_Mo_priceOf (n := n) (u := u) (t := t) (i := i) (r := r) s x2) ?_
        rintro ⟨v_10, i_11⟩ -
        dsimp only [bkE, F_i1]
        refine ge_run (pc' := 30) (L' := [.ref 1638, .int x1, .int x2]) (S' := [.int (1 : Int32), .int x1, .ref 1638, .int v_10]) 3 rfl ?_
        refine ge_cv rfl rfl rfl (t1638 s) rfl rfl rfl (D := 2) (Nat.le_trans (by decide) hd) (c_Mo_ofBuyer (n := n) (u := u) (t := t) (i := i_11) (r := r) s x1 (1 : Int32)) ?_
        rintro v_12 -
        dsimp only [bkE, F_i0]
        refine ge_gt rfl (fun h_13 => ?_) (fun h_14 => ?_)
        · refine ge_run (pc' := 35) (L' := [.ref 1638, .int x1, .int x2]) (S' := [.int (0 : Int32)]) 1 rfl ?_
          exact ge_retz rfl rfl (Or.inl rfl) (And.intro rfl trivial)
        · refine ge_run (pc' := 35) (L' := [.ref 1638, .int x1, .int x2]) (S' := [.int (1 : Int32)]) 2 rfl ?_
          exact ge_retz rfl rfl (Or.inr rfl) (And.intro rfl trivial)
    · refine ge_run (pc' := 35) (L' := [.ref 1638, .int x1, .int x2]) (S' := [.int (0 : Int32)]) 1 rfl ?_
      exact ge_retz rfl rfl (Or.inl rfl) (And.intro rfl trivial)
  · refine ge_run (pc' := 35) (L' := [.ref 1638, .int x1, .int x2]) (S' := [.int (0 : Int32)]) 1 rfl ?_
    exact ge_retz rfl rfl (Or.inl rfl) (And.intro rfl trivial)
def f_Mo_choiceOf (i : MI) (x1 : Int32) : Option (Int32 × MI) :=
  (itr (σ := Int32 × Int32 × MI) (ρ := Int32 × MI) (fun (x2_1, x3_2, i_3) => (f_Mo_fishes i_3).bind (fun v_7 => if x3_2 < v_7 then ((f_Mo_suits i_3 x1 x3_2).bind (fun (v_9, i_10) => (if v_9 = 0 then (some x2_1) else (if x2_1 = (-1 : Int32) then (some x3_2) else ((f_Mo_of i_10 x3_2 (2 : Int32)).bind (fun v_16 => (f_Mo_of i_10 x2_1 (2 : Int32)).bind (fun v_17 => if v_17 < v_16 then (some x3_2) else (some x2_1))))) : Option (Int32)).bind (fun x2_11 => some (.inl (x2_11, (x3_2 + (1 : Int32)), i_10))))) else (some (.inr (x2_1, i_3))))) 1000000 ((-1 : Int32), (0 : Int32), i)).bind (fun (x2_4, i_5) => some (x2_4, i_5))
set_option maxHeartbeats 4000000 in
theorem c_Mo_choiceOf {n u : Nat} {t : MT} {i : MI} {r : MR} (s : Sh n t r) (x1 : Int32) : Cn 9 269 [.ref 1638, .int x1] (n, u, t, i, r) (f_Mo_choiceOf i x1) (F_i1 n u t r) PT := by
  refine cn_of (Y := K_Mo_choiceOf) (L0 := [.ref 1638, .int x1, uV, uV]) rfl rfl rfl ?_
  intro d hd
  unfold f_Mo_choiceOf
  refine ge_run (pc' := 4) (L' := [.ref 1638, .int x1, .int (-1 : Int32), .int (0 : Int32)]) (S' := []) 4 rfl ?_
  refine ge_bind (K1 := fun (q : Int32 × MI) e => ∃ w_6 : Value, e = .inl (29, [.ref 1638, .int x1, .int q.1, w_6], [], (n, u, t, q.2, r))) (ge_itr (C := fun (q : Int32 × Int32 × MI) e => e = .inl (4, [.ref 1638, .int x1, .int q.1, .int q.2.1], [], (n, u, t, q.2.2, r))) ?_ _ _ _ rfl) ?_
  · rintro ⟨x2_1, x3_2, i_3⟩ _ rfl
    try dsimp only
    refine ge_run (pc' := 6) (L' := [.ref 1638, .int x1, .int x2_1, .int x3_2]) (S' := [.ref 1638, .int x3_2]) 2 rfl ?_
    refine ge_cv rfl rfl rfl (t1638 s) rfl rfl rfl (D := 1) (Nat.le_trans (by decide) hd) (c_Mo_fishes (n := n) (u := u) (t := t) (i := i_3) (r := r) s ) ?_
    rintro v_7 -
    dsimp only [bkE, F_i0]
    refine ge_ge rfl (fun h_8 => ?_) (fun h_20 => ?_)
    · refine ge_run (pc' := 11) (L' := [.ref 1638, .int x1, .int x2_1, .int x3_2]) (S' := [.int x3_2, .int x1, .ref 1638]) 3 rfl ?_
      refine ge_cv rfl rfl rfl (t1638 s) rfl rfl rfl (D := 8) (Nat.le_trans (by decide) hd) (c_Mo_suits (n := n) (u := u) (t := t) (i := i_3) (r := r) s x1 x3_2) ?_
      rintro ⟨v_9, i_10⟩ -
      dsimp only [bkE, F_i1]
      refine ge_bind (K1 := fun (q : Int32) e => e = .inl (27, [.ref 1638, .int x1, .int q, .int x3_2], [], (n, u, t, i_10, r))) ?_ ?_
      · refine ge_eq0 rfl (fun h_12 => ?_) (fun h_13 => ?_)
        · exact ge_leaf rfl
        · refine ge_run (pc' := 15) (L' := [.ref 1638, .int x1, .int x2_1, .int x3_2]) (S' := [.int (-1 : Int32), .int x2_1]) 2 rfl ?_
          refine ge_eq rfl (fun h_14 => ?_) (fun h_15 => ?_)
          · refine ge_run (pc' := 27) (L' := [.ref 1638, .int x1, .int x3_2, .int x3_2]) (S' := []) 2 rfl ?_
            exact ge_leaf rfl
          · refine ge_run (pc' := 19) (L' := [.ref 1638, .int x1, .int x2_1, .int x3_2]) (S' := [.int (2 : Int32), .int x3_2, .ref 1638]) 3 rfl ?_
            refine ge_cv rfl rfl rfl (t1638 s) rfl rfl rfl (D := 2) (Nat.le_trans (by decide) hd) (c_Mo_of (n := n) (u := u) (t := t) (i := i_10) (r := r) s x3_2 (2 : Int32)) ?_
            rintro v_16 -
            dsimp only [bkE, F_i0]
            refine ge_run (pc' := 23) (L' := [.ref 1638, .int x1, .int x2_1, .int x3_2]) (S' := [.int (2 : Int32), .int x2_1, .ref 1638, .int v_16]) 3 rfl ?_
            refine ge_cv rfl rfl rfl (t1638 s) rfl rfl rfl (D := 2) (Nat.le_trans (by decide) hd) (c_Mo_of (n := n) (u := u) (t := t) (i := i_10) (r := r) s x2_1 (2 : Int32)) ?_
            rintro v_17 -
            dsimp only [bkE, F_i0]
            refine ge_le rfl (fun h_18 => ?_) (fun h_19 => ?_)
            · refine ge_run (pc' := 27) (L' := [.ref 1638, .int x1, .int x3_2, .int x3_2]) (S' := []) 2 rfl ?_
              exact ge_leaf rfl
            · exact ge_leaf rfl
      · rintro x2_11 _ rfl
        try dsimp only
        refine ge_run (pc' := 4) (L' := [.ref 1638, .int x1, .int x2_11, .int (x3_2 + (1 : Int32))]) (S' := []) 2 rfl ?_
        exact ge_leaf (K := kX _ _) rfl
    · exact ge_leaf (K := kX _ _) (Exists.intro _ rfl)
  · rintro ⟨x2_4, i_5⟩ _ ⟨w_6, rfl⟩
    try dsimp only
    refine ge_run (pc' := 30) (L' := [.ref 1638, .int x1, .int x2_4, w_6]) (S' := [.int x2_4]) 1 rfl ?_
    exact ge_ret rfl rfl (And.intro rfl trivial)
def f_Mo_isSold (i : MI) (x1 : Int32) (x2 : Int32) (x3 : Int32) : Option (Int32 × MI) :=
  (f_Mo_priceOf i x1).bind (fun (v_1, i_2) => (f_Mo_buyerAt x2 (1 : Int32)).bind (fun v_3 => grd v_3 2115 (bnd (wr i_2 1639 (ix v_3) ((i_2 1639 (ix v_3)) - v_1)) (fun i_6 => (f_J_min (9999 : Int32) ((i_6 1639 7) + v_1)).bind (fun v_7 => bnd (wr i_6 1639 7 v_7) (fun i_8 => (f_Mo_isNowIn i_8 x1 (3 : Int32) (0 : Int32)).bind (fun i_9 => (f_Mo_isTold i_9 x1 x3 x2).bind (fun i_10 => some (v_1, i_10)))))))))
set_option maxHeartbeats 4000000 in
theorem c_Mo_isSold {n u : Nat} {t : MT} {i : MI} {r : MR} (s : Sh n t r) (x1 : Int32) (x2 : Int32) (x3 : Int32) : Cn 8 270 [.ref 1638, .int x1, .int x2, .int x3] (n, u, t, i, r) (f_Mo_isSold i x1 x2 x3) (F_i1 n u t r) PT := by
  refine cn_of (Y := K_Mo_isSold) (L0 := [.ref 1638, .int x1, .int x2, .int x3, uV]) rfl rfl rfl ?_
  intro d hd
  unfold f_Mo_isSold
  refine ge_run (pc' := 2) (L' := [.ref 1638, .int x1, .int x2, .int x3, uV]) (S' := [.int x1, .ref 1638]) 2 rfl ?_
  refine ge_cv rfl rfl rfl (t1638 s) rfl rfl rfl (D := 7) (Nat.le_trans (by decide) hd) (c_Mo_priceOf (n := n) (u := u) (t := t) (i := i) (r := r) s x1) ?_
  rintro ⟨v_1, i_2⟩ -
  dsimp only [bkE, F_i1]
  refine ge_run (pc' := 5) (L' := [.ref 1638, .int x1, .int x2, .int x3, .int v_1]) (S' := [.ref 1638]) 2 rfl ?_
  refine ge_getR (b := 1639) rfl (t1638 s) rfl (r1638_1 s) (Nat.le_of_ble_eq_true rfl) ?_
  refine ge_run (pc' := 8) (L' := [.ref 1638, .int x1, .int x2, .int x3, .int v_1]) (S' := [.int (1 : Int32), .int x2, .ref 1639]) 2 rfl ?_
  refine ge_cs rfl rfl rfl rfl rfl rfl (D := 1) (Nat.le_trans (by decide) hd) (c_Mo_buyerAt (n := n) (u := u) (t := t) (i := i_2) (r := r) s x2 (1 : Int32)) ?_
  rintro v_3 -
  dsimp only [bkE, F_i0]
  refine ge_run (pc' := 10) (L' := [.ref 1638, .int x1, .int x2, .int x3, .int v_1]) (S' := [.int v_3, .ref 1639, .int v_3, .ref 1639]) 1 rfl ?_
  refine ge_grd (fun g_4 g_5 => ?_)
  refine ge_iald (jn := (ix v_3)) rfl (t1639 s) ⟨g_4, rfl⟩ g_5 ?_
  refine ge_run (pc' := 13) (L' := [.ref 1638, .int x1, .int x2, .int x3, .int v_1]) (S' := [.int ((i_2 1639 (ix v_3)) - v_1), .int v_3, .ref 1639]) 2 rfl ?_
  refine ge_iast (jn := (ix v_3)) rfl (t1639 s) (Nat.le_of_ble_eq_true rfl) ⟨g_4, rfl⟩ g_5 (fun i_6 => ?_)
  refine ge_run (pc' := 15) (L' := [.ref 1638, .int x1, .int x2, .int x3, .int v_1]) (S' := [.ref 1638]) 1 rfl ?_
  refine ge_getR (b := 1639) rfl (t1638 s) rfl (r1638_1 s) (Nat.le_of_ble_eq_true rfl) ?_
  refine ge_run (pc' := 19) (L' := [.ref 1638, .int x1, .int x2, .int x3, .int v_1]) (S' := [.ref 1638, .int (9999 : Int32), .int (7 : Int32), .ref 1639]) 3 rfl ?_
  refine ge_getR (b := 1639) rfl (t1638 s) rfl (r1638_1 s) (Nat.le_of_ble_eq_true rfl) ?_
  refine ge_run (pc' := 21) (L' := [.ref 1638, .int x1, .int x2, .int x3, .int v_1]) (S' := [.int (7 : Int32), .ref 1639, .int (9999 : Int32), .int (7 : Int32), .ref 1639]) 1 rfl ?_
  refine ge_iald (jn := 7) rfl (t1639 s) lk7 (by decide) ?_
  refine ge_run (pc' := 24) (L' := [.ref 1638, .int x1, .int x2, .int x3, .int v_1]) (S' := [.int ((i_6 1639 7) + v_1), .int (9999 : Int32), .int (7 : Int32), .ref 1639]) 2 rfl ?_
  refine ge_cs rfl rfl rfl rfl rfl rfl (D := 1) (Nat.le_trans (by decide) hd) (c_J_min (n := n) (u := u) (t := t) (i := i_6) (r := r) s (9999 : Int32) ((i_6 1639 7) + v_1)) ?_
  rintro v_7 -
  dsimp only [bkE, F_i0]
  refine ge_iast (jn := 7) rfl (t1639 s) (Nat.le_of_ble_eq_true rfl) lk7 (by decide) (fun i_8 => ?_)
  refine ge_run (pc' := 30) (L' := [.ref 1638, .int x1, .int x2, .int x3, .int v_1]) (S' := [.int (0 : Int32), .int (3 : Int32), .int x1, .ref 1638]) 4 rfl ?_
  refine ge_cv rfl rfl rfl (t1638 s) rfl rfl rfl (D := 2) (Nat.le_trans (by decide) hd) (c_Mo_isNowIn (n := n) (u := u) (t := t) (i := i_8) (r := r) s x1 (3 : Int32) (0 : Int32)) ?_
  rintro i_9 -
  dsimp only [bkE, F_v1]
  refine ge_run (pc' := 35) (L' := [.ref 1638, .int x1, .int x2, .int x3, .int v_1]) (S' := [.int x2, .int x3, .int x1, .ref 1638]) 4 rfl ?_
  refine ge_cv rfl rfl rfl (t1638 s) rfl rfl rfl (D := 3) (Nat.le_trans (by decide) hd) (c_Mo_isTold (n := n) (u := u) (t := t) (i := i_9) (r := r) s x1 x3 x2) ?_
  rintro i_10 -
  dsimp only [bkE, F_v1]
  refine ge_run (pc' := 37) (L' := [.ref 1638, .int x1, .int x2, .int x3, .int v_1]) (S' := [.int v_1]) 1 rfl ?_
  exact ge_ret rfl rfl (And.intro rfl trivial)
def f_Mo_oneDay (i : MI) (x1 : Int32) : Option (Int32 × MI) :=
  (itr (σ := Int32 × MI) (ρ := MI) (fun (x2_1, i_2) => (f_Mo_fishes i_2).bind (fun v_5 => if x2_1 < v_5 then ((f_Mo_of i_2 x2_1 (3 : Int32)).bind (fun v_7 => (if v_7 = 0 then ((f_Mo_fishAt x2_1 (4 : Int32)).bind (fun v_10 => (f_Mo_of i_2 x2_1 (4 : Int32)).bind (fun v_11 => (f_Mo_driftOf i_2 v_11).bind (fun v_12 => grd v_10 2115 (bnd (wr i_2 1639 (ix v_10) v_12) (fun i_15 => some i_15)))))) else (some i_2) : Option (MI)).bind (fun i_8 => some (.inl ((x2_1 + (1 : Int32)), i_8))))) else (some (.inr i_2)))) 1000000 ((0 : Int32), i)).bind (fun i_3 => (itr (σ := Int32 × MI) (ρ := MI) (fun (x2_18, i_19) => (f_Mo_boats i_19).bind (fun v_22 => if x2_18 < v_22 then ((f_Mo_goesOneOn i_19 x2_18).bind (fun i_24 => (f_Mo_catchesAll i_24 x2_18).bind (fun i_25 => some (.inl ((x2_18 + (1 : Int32)), i_25))))) else (some (.inr i_19)))) 1000000 ((0 : Int32), i_3)).bind (fun i_20 => (f_Mo_allTurn i_20).bind (fun i_27 => (f_J_max (0 : Int32) ((i_27 1639 6) - (1 : Int32))).bind (fun v_28 => bnd (wr i_27 1639 6 v_28) (fun i_29 => (itr (σ := Int32 × Int32 × MI) (ρ := Int32 × MI) (fun (x2_30, x3_31, i_32) => (f_Mo_buyers i_32).bind (fun v_40 => if x3_31 < v_40 then (if x1 = 0 then ((f_Mo_drawn i_32 (100 : Int32)).bind (fun (v_43, i_44) => (f_Mo_ofBuyer i_44 x3_31 (3 : Int32)).bind (fun v_45 => (if v_43 < v_45 then (some (1 : Int32)) else (some (0 : Int32)) : Option (Int32)).bind (fun y_46 => (f_Mo_choiceOf i_44 x3_31).bind (fun (v_49, i_50) => (if y_46 = 0 then (some (x2_30, i_50)) else (if v_49 = (-1 : Int32) then (some (x2_30, i_50)) else ((f_Mo_isSold i_50 v_49 x3_31 (2 : Int32)).bind (fun (v_57, i_58) => some ((x2_30 + (1 : Int32)), i_58)))) : Option (Int32 × MI)).bind (fun (x2_51, i_52) => some (.inl (x2_51, (x3_31 + (1 : Int32)), i_52)))))))) else (some (.inr (x2_30, i_32)))) else (some (.inr (x2_30, i_32))))) 1000000 ((0 : Int32), (0 : Int32), i_29)).bind (fun (x2_35, i_36) => (f_J_min (9999 : Int32) ((i_36 1639 8) + (1 : Int32))).bind (fun v_61 => bnd (wr i_36 1639 8 v_61) (fun i_62 => some (x2_35, i_62)))))))))
set_option maxHeartbeats 4000000 in
theorem c_Mo_oneDay {n u : Nat} {t : MT} {i : MI} {r : MR} (s : Sh n t r) (x1 : Int32) : Cn 10 271 [.ref 1638, .int x1] (n, u, t, i, r) (f_Mo_oneDay i x1) (F_i1 n u t r) PT := by
  refine cn_of (Y := K_Mo_oneDay) (L0 := [.ref 1638, .int x1, uV, uV, uV, uV]) rfl rfl rfl ?_
  intro d hd
  unfold f_Mo_oneDay
  refine ge_run (pc' := 2) (L' := [.ref 1638, .int x1, .int (0 : Int32), uV, uV, uV]) (S' := []) 2 rfl ?_
  refine ge_bind (K1 := fun (q : MI) e => ∃ w_4 : Value, e = .inl (25, [.ref 1638, .int x1, w_4, uV, uV, uV], [], (n, u, t, q, r))) (ge_itr (C := fun (q : Int32 × MI) e => e = .inl (2, [.ref 1638, .int x1, .int q.1, uV, uV, uV], [], (n, u, t, q.2, r))) ?_ _ _ _ rfl) ?_
  · rintro ⟨x2_1, i_2⟩ _ rfl
    try dsimp only
    refine ge_run (pc' := 4) (L' := [.ref 1638, .int x1, .int x2_1, uV, uV, uV]) (S' := [.ref 1638, .int x2_1]) 2 rfl ?_
    refine ge_cv rfl rfl rfl (t1638 s) rfl rfl rfl (D := 1) (Nat.le_trans (by decide) hd) (c_Mo_fishes (n := n) (u := u) (t := t) (i := i_2) (r := r) s ) ?_
    rintro v_5 -
    dsimp only [bkE, F_i0]
    refine ge_ge rfl (fun h_6 => ?_) (fun h_17 => ?_)
    · refine ge_run (pc' := 9) (L' := [.ref 1638, .int x1, .int x2_1, uV, uV, uV]) (S' := [.int (3 : Int32), .int x2_1, .ref 1638]) 3 rfl ?_
      refine ge_cv rfl rfl rfl (t1638 s) rfl rfl rfl (D := 2) (Nat.le_trans (by decide) hd) (c_Mo_of (n := n) (u := u) (t := t) (i := i_2) (r := r) s x2_1 (3 : Int32)) ?_
      rintro v_7 -
      dsimp only [bkE, F_i0]
      refine ge_bind (K1 := fun (q : MI) e => e = .inl (23, [.ref 1638, .int x1, .int x2_1, uV, uV, uV], [], (n, u, t, q, r))) ?_ ?_
      · refine ge_ne0 rfl (fun h_9 => ?_) (fun h_16 => ?_)
        · refine ge_run (pc' := 12) (L' := [.ref 1638, .int x1, .int x2_1, uV, uV, uV]) (S' := [.ref 1638]) 1 rfl ?_
          refine ge_getR (b := 1639) rfl (t1638 s) rfl (r1638_1 s) (Nat.le_of_ble_eq_true rfl) ?_
          refine ge_run (pc' := 15) (L' := [.ref 1638, .int x1, .int x2_1, uV, uV, uV]) (S' := [.int (4 : Int32), .int x2_1, .ref 1639]) 2 rfl ?_
          refine ge_cs rfl rfl rfl rfl rfl rfl (D := 1) (Nat.le_trans (by decide) hd) (c_Mo_fishAt (n := n) (u := u) (t := t) (i := i_2) (r := r) s x2_1 (4 : Int32)) ?_
          rintro v_10 -
          dsimp only [bkE, F_i0]
          refine ge_run (pc' := 20) (L' := [.ref 1638, .int x1, .int x2_1, uV, uV, uV]) (S' := [.int (4 : Int32), .int x2_1, .ref 1638, .ref 1638, .int v_10, .ref 1639]) 4 rfl ?_
          refine ge_cv rfl rfl rfl (t1638 s) rfl rfl rfl (D := 2) (Nat.le_trans (by decide) hd) (c_Mo_of (n := n) (u := u) (t := t) (i := i_2) (r := r) s x2_1 (4 : Int32)) ?_
          rintro v_11 -
          dsimp only [bkE, F_i0]
          refine ge_cv rfl rfl rfl (t1638 s) rfl rfl rfl (D := 2) (Nat.le_trans (by decide) hd) (c_Mo_driftOf (n := n) (u := u) (t := t) (i := i_2) (r := r) s v_11) ?_
          rintro v_12 -
          dsimp only [bkE, F_i0]
          refine ge_grd (fun g_13 g_14 => ?_)
          refine ge_iast (jn := (ix v_10)) rfl (t1639 s) (Nat.le_of_ble_eq_true rfl) ⟨g_13, rfl⟩ g_14 (fun i_15 => ?_)
          exact ge_leaf rfl
        · exact ge_leaf rfl
      · rintro i_8 _ rfl
        try dsimp only
        refine ge_run (pc' := 2) (L' := [.ref 1638, .int x1, .int (x2_1 + (1 : Int32)), uV, uV, uV]) (S' := []) 2 rfl ?_
        exact ge_leaf (K := kX _ _) rfl
    · exact ge_leaf (K := kX _ _) (Exists.intro _ rfl)
  · rintro i_3 _ ⟨w_4, rfl⟩
    try dsimp only
    refine ge_run (pc' := 27) (L' := [.ref 1638, .int x1, .int (0 : Int32), uV, uV, uV]) (S' := []) 2 rfl ?_
    refine ge_bind (K1 := fun (q : MI) e => ∃ w_21 : Value, e = .inl (39, [.ref 1638, .int x1, w_21, uV, uV, uV], [], (n, u, t, q, r))) (ge_itr (C := fun (q : Int32 × MI) e => e = .inl (27, [.ref 1638, .int x1, .int q.1, uV, uV, uV], [], (n, u, t, q.2, r))) ?_ _ _ _ rfl) ?_
    · rintro ⟨x2_18, i_19⟩ _ rfl
      try dsimp only
      refine ge_run (pc' := 29) (L' := [.ref 1638, .int x1, .int x2_18, uV, uV, uV]) (S' := [.ref 1638, .int x2_18]) 2 rfl ?_
      refine ge_cv rfl rfl rfl (t1638 s) rfl rfl rfl (D := 1) (Nat.le_trans (by decide) hd) (c_Mo_boats (n := n) (u := u) (t := t) (i := i_19) (r := r) s ) ?_
      rintro v_22 -
      dsimp only [bkE, F_i0]
      refine ge_ge rfl (fun h_23 => ?_) (fun h_26 => ?_)
      · refine ge_run (pc' := 33) (L' := [.ref 1638, .int x1, .int x2_18, uV, uV, uV]) (S' := [.int x2_18, .ref 1638]) 2 rfl ?_
        refine ge_cv rfl rfl rfl (t1638 s) rfl rfl rfl (D := 3) (Nat.le_trans (by decide) hd) (c_Mo_goesOneOn (n := n) (u := u) (t := t) (i := i_19) (r := r) s x2_18) ?_
        rintro i_24 -
        dsimp only [bkE, F_v1]
        refine ge_run (pc' := 36) (L' := [.ref 1638, .int x1, .int x2_18, uV, uV, uV]) (S' := [.int x2_18, .ref 1638]) 2 rfl ?_
        refine ge_cv rfl rfl rfl (t1638 s) rfl rfl rfl (D := 4) (Nat.le_trans (by decide) hd) (c_Mo_catchesAll (n := n) (u := u) (t := t) (i := i_24) (r := r) s x2_18) ?_
        rintro i_25 -
        dsimp only [bkE, F_v1]
        refine ge_run (pc' := 27) (L' := [.ref 1638, .int x1, .int (x2_18 + (1 : Int32)), uV, uV, uV]) (S' := []) 2 rfl ?_
        exact ge_leaf (K := kX _ _) rfl
      · exact ge_leaf (K := kX _ _) (Exists.intro _ rfl)
    · rintro i_20 _ ⟨w_21, rfl⟩
      try dsimp only
      refine ge_run (pc' := 40) (L' := [.ref 1638, .int x1, w_21, uV, uV, uV]) (S' := [.ref 1638]) 1 rfl ?_
      refine ge_cv rfl rfl rfl (t1638 s) rfl rfl rfl (D := 8) (Nat.le_trans (by decide) hd) (c_Mo_allTurn (n := n) (u := u) (t := t) (i := i_20) (r := r) s ) ?_
      rintro i_27 -
      dsimp only [bkE, F_v1]
      refine ge_run (pc' := 42) (L' := [.ref 1638, .int x1, w_21, uV, uV, uV]) (S' := [.ref 1638]) 1 rfl ?_
      refine ge_getR (b := 1639) rfl (t1638 s) rfl (r1638_1 s) (Nat.le_of_ble_eq_true rfl) ?_
      refine ge_run (pc' := 46) (L' := [.ref 1638, .int x1, w_21, uV, uV, uV]) (S' := [.ref 1638, .int (0 : Int32), .int (6 : Int32), .ref 1639]) 3 rfl ?_
      refine ge_getR (b := 1639) rfl (t1638 s) rfl (r1638_1 s) (Nat.le_of_ble_eq_true rfl) ?_
      refine ge_run (pc' := 48) (L' := [.ref 1638, .int x1, w_21, uV, uV, uV]) (S' := [.int (6 : Int32), .ref 1639, .int (0 : Int32), .int (6 : Int32), .ref 1639]) 1 rfl ?_
      refine ge_iald (jn := 6) rfl (t1639 s) lk6 (by decide) ?_
      refine ge_run (pc' := 51) (L' := [.ref 1638, .int x1, w_21, uV, uV, uV]) (S' := [.int ((i_27 1639 6) - (1 : Int32)), .int (0 : Int32), .int (6 : Int32), .ref 1639]) 2 rfl ?_
      refine ge_cs rfl rfl rfl rfl rfl rfl (D := 1) (Nat.le_trans (by decide) hd) (c_J_max (n := n) (u := u) (t := t) (i := i_27) (r := r) s (0 : Int32) ((i_27 1639 6) - (1 : Int32))) ?_
      rintro v_28 -
      dsimp only [bkE, F_i0]
      refine ge_iast (jn := 6) rfl (t1639 s) (Nat.le_of_ble_eq_true rfl) lk6 (by decide) (fun i_29 => ?_)
      refine ge_run (pc' := 57) (L' := [.ref 1638, .int x1, .int (0 : Int32), .int (0 : Int32), uV, uV]) (S' := []) 4 rfl ?_
      refine ge_bind (K1 := fun (q : Int32 × MI) e => ∃ w_37 w_38 w_39 : Value, e = .inl (94, [.ref 1638, .int x1, .int q.1, w_37, w_38, w_39], [], (n, u, t, q.2, r))) (ge_itr (C := fun (q : Int32 × Int32 × MI) e => ∃ w_33 w_34 : Value, e = .inl (57, [.ref 1638, .int x1, .int q.1, .int q.2.1, w_33, w_34], [], (n, u, t, q.2.2, r))) ?_ _ _ _ (Exists.intro _ (Exists.intro _ rfl))) ?_
      · rintro ⟨x2_30, x3_31, i_32⟩ _ ⟨w_33, w_34, rfl⟩
        try dsimp only
        refine ge_run (pc' := 59) (L' := [.ref 1638, .int x1, .int x2_30, .int x3_31, w_33, w_34]) (S' := [.ref 1638, .int x3_31]) 2 rfl ?_
        refine ge_cv rfl rfl rfl (t1638 s) rfl rfl rfl (D := 1) (Nat.le_trans (by decide) hd) (c_Mo_buyers (n := n) (u := u) (t := t) (i := i_32) (r := r) s ) ?_
        rintro v_40 -
        dsimp only [bkE, F_i0]
        refine ge_ge rfl (fun h_41 => ?_) (fun h_60 => ?_)
        · refine ge_run (pc' := 62) (L' := [.ref 1638, .int x1, .int x2_30, .int x3_31, w_33, w_34]) (S' := [.int x1]) 1 rfl ?_
          refine ge_ne0 rfl (fun h_42 => ?_) (fun h_59 => ?_)
          · refine ge_run (pc' := 65) (L' := [.ref 1638, .int x1, .int x2_30, .int x3_31, w_33, w_34]) (S' := [.int (100 : Int32), .ref 1638]) 2 rfl ?_
            refine ge_cv rfl rfl rfl (t1638 s) rfl rfl rfl (D := 1) (Nat.le_trans (by decide) hd) (c_Mo_drawn (n := n) (u := u) (t := t) (i := i_32) (r := r) s (100 : Int32)) ?_
            rintro ⟨v_43, i_44⟩ -
            dsimp only [bkE, F_i1]
            refine ge_run (pc' := 69) (L' := [.ref 1638, .int x1, .int x2_30, .int x3_31, w_33, w_34]) (S' := [.int (3 : Int32), .int x3_31, .ref 1638, .int v_43]) 3 rfl ?_
            refine ge_cv rfl rfl rfl (t1638 s) rfl rfl rfl (D := 2) (Nat.le_trans (by decide) hd) (c_Mo_ofBuyer (n := n) (u := u) (t := t) (i := i_44) (r := r) s x3_31 (3 : Int32)) ?_
            rintro v_45 -
            dsimp only [bkE, F_i0]
            refine ge_bind (K1 := fun (q : Int32) e => e = .inl (74, [.ref 1638, .int x1, .int x2_30, .int x3_31, w_33, w_34], [.int q], (n, u, t, i_44, r))) ?_ ?_
            · refine ge_ge rfl (fun h_47 => ?_) (fun h_48 => ?_)
              · refine ge_run (pc' := 74) (L' := [.ref 1638, .int x1, .int x2_30, .int x3_31, w_33, w_34]) (S' := [.int (1 : Int32)]) 2 rfl ?_
                exact ge_leaf rfl
              · refine ge_run (pc' := 74) (L' := [.ref 1638, .int x1, .int x2_30, .int x3_31, w_33, w_34]) (S' := [.int (0 : Int32)]) 1 rfl ?_
                exact ge_leaf rfl
            · rintro y_46 _ rfl
              try dsimp only
              refine ge_run (pc' := 77) (L' := [.ref 1638, .int x1, .int x2_30, .int x3_31, .int y_46, w_34]) (S' := [.int x3_31, .ref 1638]) 3 rfl ?_
              refine ge_cv rfl rfl rfl (t1638 s) rfl rfl rfl (D := 9) (Nat.le_trans (by decide) hd) (c_Mo_choiceOf (n := n) (u := u) (t := t) (i := i_44) (r := r) s x3_31) ?_
              rintro ⟨v_49, i_50⟩ -
              dsimp only [bkE, F_i1]
              refine ge_run (pc' := 80) (L' := [.ref 1638, .int x1, .int x2_30, .int x3_31, .int y_46, .int v_49]) (S' := [.int y_46]) 2 rfl ?_
              refine ge_bind (K1 := fun (q : Int32 × MI) e => e = .inl (92, [.ref 1638, .int x1, .int q.1, .int x3_31, .int y_46, .int v_49], [], (n, u, t, q.2, r))) ?_ ?_
              · refine ge_eq0 rfl (fun h_53 => ?_) (fun h_54 => ?_)
                · exact ge_leaf rfl
                · refine ge_run (pc' := 83) (L' := [.ref 1638, .int x1, .int x2_30, .int x3_31, .int y_46, .int v_49]) (S' := [.int (-1 : Int32), .int v_49]) 2 rfl ?_
                  refine ge_ne rfl (fun h_55 => ?_) (fun h_56 => ?_)
                  · refine ge_run (pc' := 92) (L' := [.ref 1638, .int x1, .int x2_30, .int x3_31, .int y_46, .int v_49]) (S' := []) 1 rfl ?_
                    exact ge_leaf rfl
                  · refine ge_run (pc' := 89) (L' := [.ref 1638, .int x1, .int x2_30, .int x3_31, .int y_46, .int v_49]) (S' := [.int (2 : Int32), .int x3_31, .int v_49, .ref 1638]) 4 rfl ?_
                    refine ge_cv rfl rfl rfl (t1638 s) rfl rfl rfl (D := 8) (Nat.le_trans (by decide) hd) (c_Mo_isSold (n := n) (u := u) (t := t) (i := i_50) (r := r) s v_49 x3_31 (2 : Int32)) ?_
                    rintro ⟨v_57, i_58⟩ -
                    dsimp only [bkE, F_i1]
                    refine ge_run (pc' := 92) (L' := [.ref 1638, .int x1, .int (x2_30 + (1 : Int32)), .int x3_31, .int y_46, .int v_49]) (S' := []) 2 rfl ?_
                    exact ge_leaf rfl
              · rintro ⟨x2_51, i_52⟩ _ rfl
                try dsimp only
                refine ge_run (pc' := 57) (L' := [.ref 1638, .int x1, .int x2_51, .int (x3_31 + (1 : Int32)), .int y_46, .int v_49]) (S' := []) 2 rfl ?_
                exact ge_leaf (K := kX _ _) (Exists.intro _ (Exists.intro _ rfl))
          · exact ge_leaf (K := kX _ _) (Exists.intro _ (Exists.intro _ (Exists.intro _ rfl)))
        · exact ge_leaf (K := kX _ _) (Exists.intro _ (Exists.intro _ (Exists.intro _ rfl)))
      · rintro ⟨x2_35, i_36⟩ _ ⟨w_37, w_38, w_39, rfl⟩
        try dsimp only
        refine ge_run (pc' := 95) (L' := [.ref 1638, .int x1, .int x2_35, w_37, w_38, w_39]) (S' := [.ref 1638]) 1 rfl ?_
        refine ge_getR (b := 1639) rfl (t1638 s) rfl (r1638_1 s) (Nat.le_of_ble_eq_true rfl) ?_
        refine ge_run (pc' := 99) (L' := [.ref 1638, .int x1, .int x2_35, w_37, w_38, w_39]) (S' := [.ref 1638, .int (9999 : Int32), .int (8 : Int32), .ref 1639]) 3 rfl ?_
        refine ge_getR (b := 1639) rfl (t1638 s) rfl (r1638_1 s) (Nat.le_of_ble_eq_true rfl) ?_
        refine ge_run (pc' := 101) (L' := [.ref 1638, .int x1, .int x2_35, w_37, w_38, w_39]) (S' := [.int (8 : Int32), .ref 1639, .int (9999 : Int32), .int (8 : Int32), .ref 1639]) 1 rfl ?_
        refine ge_iald (jn := 8) rfl (t1639 s) lk8 (by decide) ?_
        refine ge_run (pc' := 104) (L' := [.ref 1638, .int x1, .int x2_35, w_37, w_38, w_39]) (S' := [.int ((i_36 1639 8) + (1 : Int32)), .int (9999 : Int32), .int (8 : Int32), .ref 1639]) 2 rfl ?_
        refine ge_cs rfl rfl rfl rfl rfl rfl (D := 1) (Nat.le_trans (by decide) hd) (c_J_min (n := n) (u := u) (t := t) (i := i_36) (r := r) s (9999 : Int32) ((i_36 1639 8) + (1 : Int32))) ?_
        rintro v_61 -
        dsimp only [bkE, F_i0]
        refine ge_iast (jn := 8) rfl (t1639 s) (Nat.le_of_ble_eq_true rfl) lk8 (by decide) (fun i_62 => ?_)
        refine ge_run (pc' := 107) (L' := [.ref 1638, .int x1, .int x2_35, w_37, w_38, w_39]) (S' := [.int x2_35]) 1 rfl ?_
        exact ge_ret rfl rfl (And.intro rfl trivial)
def f_Mo_goesOn (i : MI) (x1 : Int32) (x2 : Int32) : Option (Int32 × MI) :=
  (itr (σ := Int32 × Int32 × MI) (ρ := Int32 × MI) (fun (x3_1, x4_2, i_3) => if x4_2 < x1 then ((f_Mo_oneDay i_3 x2).bind (fun (v_8, i_9) => some (.inl ((x3_1 + v_8), (x4_2 + (1 : Int32)), i_9)))) else (some (.inr (x3_1, i_3)))) 1000000 ((0 : Int32), (0 : Int32), i)).bind (fun (x3_4, i_5) => some (x3_4, i_5))
set_option maxHeartbeats 4000000 in
theorem c_Mo_goesOn {n u : Nat} {t : MT} {i : MI} {r : MR} (s : Sh n t r) (x1 : Int32) (x2 : Int32) : Cn 11 272 [.ref 1638, .int x1, .int x2] (n, u, t, i, r) (f_Mo_goesOn i x1 x2) (F_i1 n u t r) PT := by
  refine cn_of (Y := K_Mo_goesOn) (L0 := [.ref 1638, .int x1, .int x2, uV, uV]) rfl rfl rfl ?_
  intro d hd
  unfold f_Mo_goesOn
  refine ge_run (pc' := 4) (L' := [.ref 1638, .int x1, .int x2, .int (0 : Int32), .int (0 : Int32)]) (S' := []) 4 rfl ?_
  refine ge_bind (K1 := fun (q : Int32 × MI) e => ∃ w_6 : Value, e = .inl (15, [.ref 1638, .int x1, .int x2, .int q.1, w_6], [], (n, u, t, q.2, r))) (ge_itr (C := fun (q : Int32 × Int32 × MI) e => e = .inl (4, [.ref 1638, .int x1, .int x2, .int q.1, .int q.2.1], [], (n, u, t, q.2.2, r))) ?_ _ _ _ rfl) ?_
  · rintro ⟨x3_1, x4_2, i_3⟩ _ rfl
    try dsimp only
    refine ge_run (pc' := 6) (L' := [.ref 1638, .int x1, .int x2, .int x3_1, .int x4_2]) (S' := [.int x1, .int x4_2]) 2 rfl ?_
    refine ge_ge rfl (fun h_7 => ?_) (fun h_10 => ?_)
    · refine ge_run (pc' := 10) (L' := [.ref 1638, .int x1, .int x2, .int x3_1, .int x4_2]) (S' := [.int x2, .ref 1638, .int x3_1]) 3 rfl ?_
      refine ge_cv rfl rfl rfl (t1638 s) rfl rfl rfl (D := 10) (Nat.le_trans (by decide) hd) (c_Mo_oneDay (n := n) (u := u) (t := t) (i := i_3) (r := r) s x2) ?_
      rintro ⟨v_8, i_9⟩ -
      dsimp only [bkE, F_i1]
      refine ge_run (pc' := 4) (L' := [.ref 1638, .int x1, .int x2, .int (x3_1 + v_8), .int (x4_2 + (1 : Int32))]) (S' := []) 4 rfl ?_
      exact ge_leaf (K := kX _ _) rfl
    · exact ge_leaf (K := kX _ _) (Exists.intro _ rfl)
  · rintro ⟨x3_4, i_5⟩ _ ⟨w_6, rfl⟩
    try dsimp only
    refine ge_run (pc' := 16) (L' := [.ref 1638, .int x1, .int x2, .int x3_4, w_6]) (S' := [.int x3_4]) 1 rfl ?_
    exact ge_ret rfl rfl (And.intro rfl trivial)
def f_Mo_comesBack (i : MI) (x1 : Int32) : Option (Int32) :=
  (f_Mo_driftOf i x1).bind (fun v_1 => (itr (σ := Int32 × Int32) (ρ := Int32) (fun (x2_2, x3_3) => if x3_3 < (25 : Int32) then (if x2_2 = x1 then (some (.inr x2_2)) else ((f_Mo_driftOf i x2_2).bind (fun v_9 => some (.inl (v_9, (x3_3 + (1 : Int32))))))) else (some (.inr x2_2))) 1000000 (v_1, (1 : Int32))).bind (fun x2_4 => if x2_4 = x1 then (some ((1 : Int32))) else (some ((0 : Int32)))))
set_option maxHeartbeats 4000000 in
theorem c_Mo_comesBack {n u : Nat} {t : MT} {i : MI} {r : MR} (s : Sh n t r) (x1 : Int32) : Cn 3 273 [.ref 1638, .int x1] (n, u, t, i, r) (f_Mo_comesBack i x1) (F_i0 n u t i r) PT := by
  refine cn_of (Y := K_Mo_comesBack) (L0 := [.ref 1638, .int x1, uV, uV]) rfl rfl rfl ?_
  intro d hd
  unfold f_Mo_comesBack
  refine ge_run (pc' := 2) (L' := [.ref 1638, .int x1, uV, uV]) (S' := [.int x1, .ref 1638]) 2 rfl ?_
  refine ge_cv rfl rfl rfl (t1638 s) rfl rfl rfl (D := 2) (Nat.le_trans (by decide) hd) (c_Mo_driftOf (n := n) (u := u) (t := t) (i := i) (r := r) s x1) ?_
  rintro v_1 -
  dsimp only [bkE, F_i0]
  refine ge_run (pc' := 6) (L' := [.ref 1638, .int x1, .int v_1, .int (1 : Int32)]) (S' := []) 3 rfl ?_
  refine ge_bind (K1 := fun (q : Int32) e => ∃ w_5 : Value, e = .inl (18, [.ref 1638, .int x1, .int q, w_5], [], (n, u, t, i, r))) (ge_itr (C := fun (q : Int32 × Int32) e => e = .inl (6, [.ref 1638, .int x1, .int q.1, .int q.2], [], (n, u, t, i, r))) ?_ _ _ _ rfl) ?_
  · rintro ⟨x2_2, x3_3⟩ _ rfl
    try dsimp only
    refine ge_run (pc' := 8) (L' := [.ref 1638, .int x1, .int x2_2, .int x3_3]) (S' := [.int (25 : Int32), .int x3_3]) 2 rfl ?_
    refine ge_ge rfl (fun h_6 => ?_) (fun h_10 => ?_)
    · refine ge_run (pc' := 11) (L' := [.ref 1638, .int x1, .int x2_2, .int x3_3]) (S' := [.int x1, .int x2_2]) 2 rfl ?_
      refine ge_eq rfl (fun h_7 => ?_) (fun h_8 => ?_)
      · exact ge_leaf (K := kX _ _) (Exists.intro _ rfl)
      · refine ge_run (pc' := 14) (L' := [.ref 1638, .int x1, .int x2_2, .int x3_3]) (S' := [.int x2_2, .ref 1638]) 2 rfl ?_
        refine ge_cv rfl rfl rfl (t1638 s) rfl rfl rfl (D := 2) (Nat.le_trans (by decide) hd) (c_Mo_driftOf (n := n) (u := u) (t := t) (i := i) (r := r) s x2_2) ?_
        rintro v_9 -
        dsimp only [bkE, F_i0]
        refine ge_run (pc' := 6) (L' := [.ref 1638, .int x1, .int v_9, .int (x3_3 + (1 : Int32))]) (S' := []) 3 rfl ?_
        exact ge_leaf (K := kX _ _) rfl
    · exact ge_leaf (K := kX _ _) (Exists.intro _ rfl)
  · rintro x2_4 _ ⟨w_5, rfl⟩
    try dsimp only
    refine ge_run (pc' := 20) (L' := [.ref 1638, .int x1, .int x2_4, w_5]) (S' := [.int x1, .int x2_4]) 2 rfl ?_
    refine ge_ne rfl (fun h_11 => ?_) (fun h_12 => ?_)
    · refine ge_run (pc' := 24) (L' := [.ref 1638, .int x1, .int x2_4, w_5]) (S' := [.int (1 : Int32)]) 2 rfl ?_
      exact ge_retz rfl rfl (Or.inr rfl) (And.intro rfl trivial)
    · refine ge_run (pc' := 24) (L' := [.ref 1638, .int x1, .int x2_4, w_5]) (S' := [.int (0 : Int32)]) 1 rfl ?_
      exact ge_retz rfl rfl (Or.inl rfl) (And.intro rfl trivial)
def f_Mo_fishIn (i : MI) (x1 : Int32) : Option (Int32) :=
  (itr (σ := Int32 × Int32) (ρ := Int32) (fun (x2_1, x3_2) => (f_Mo_fishes i).bind (fun v_5 => if x3_2 < v_5 then ((f_Mo_of i x3_2 (3 : Int32)).bind (fun v_7 => (if v_7 = 0 then ((f_Mo_of i x3_2 (4 : Int32)).bind (fun v_10 => if v_10 = x1 then (some (shl (1 : Int32) x3_2)) else (some (0 : Int32)))) else (some (0 : Int32)) : Option (Int32)).bind (fun y_8 => some (.inl ((x2_1 ||| y_8), (x3_2 + (1 : Int32))))))) else (some (.inr x2_1)))) 1000000 ((0 : Int32), (0 : Int32))).bind (fun x2_3 => some (x2_3))
set_option maxHeartbeats 4000000 in
theorem c_Mo_fishIn {n u : Nat} {t : MT} {i : MI} {r : MR} (s : Sh n t r) (x1 : Int32) : Cn 3 274 [.ref 1638, .int x1] (n, u, t, i, r) (f_Mo_fishIn i x1) (F_i0 n u t i r) PT := by
  refine cn_of (Y := K_Mo_fishIn) (L0 := [.ref 1638, .int x1, uV, uV]) rfl rfl rfl ?_
  intro d hd
  unfold f_Mo_fishIn
  refine ge_run (pc' := 4) (L' := [.ref 1638, .int x1, .int (0 : Int32), .int (0 : Int32)]) (S' := []) 4 rfl ?_
  refine ge_bind (K1 := fun (q : Int32) e => ∃ w_4 : Value, e = .inl (29, [.ref 1638, .int x1, .int q, w_4], [], (n, u, t, i, r))) (ge_itr (C := fun (q : Int32 × Int32) e => e = .inl (4, [.ref 1638, .int x1, .int q.1, .int q.2], [], (n, u, t, i, r))) ?_ _ _ _ rfl) ?_
  · rintro ⟨x2_1, x3_2⟩ _ rfl
    try dsimp only
    refine ge_run (pc' := 6) (L' := [.ref 1638, .int x1, .int x2_1, .int x3_2]) (S' := [.ref 1638, .int x3_2]) 2 rfl ?_
    refine ge_cv rfl rfl rfl (t1638 s) rfl rfl rfl (D := 1) (Nat.le_trans (by decide) hd) (c_Mo_fishes (n := n) (u := u) (t := t) (i := i) (r := r) s ) ?_
    rintro v_5 -
    dsimp only [bkE, F_i0]
    refine ge_ge rfl (fun h_6 => ?_) (fun h_14 => ?_)
    · refine ge_run (pc' := 12) (L' := [.ref 1638, .int x1, .int x2_1, .int x3_2]) (S' := [.int (3 : Int32), .int x3_2, .ref 1638, .int x2_1]) 4 rfl ?_
      refine ge_cv rfl rfl rfl (t1638 s) rfl rfl rfl (D := 2) (Nat.le_trans (by decide) hd) (c_Mo_of (n := n) (u := u) (t := t) (i := i) (r := r) s x3_2 (3 : Int32)) ?_
      rintro v_7 -
      dsimp only [bkE, F_i0]
      refine ge_bind (K1 := fun (q : Int32) e => e = .inl (25, [.ref 1638, .int x1, .int x2_1, .int x3_2], [.int q, .int x2_1], (n, u, t, i, r))) ?_ ?_
      · refine ge_ne0 rfl (fun h_9 => ?_) (fun h_13 => ?_)
        · refine ge_run (pc' := 17) (L' := [.ref 1638, .int x1, .int x2_1, .int x3_2]) (S' := [.int (4 : Int32), .int x3_2, .ref 1638, .int x2_1]) 3 rfl ?_
          refine ge_cv rfl rfl rfl (t1638 s) rfl rfl rfl (D := 2) (Nat.le_trans (by decide) hd) (c_Mo_of (n := n) (u := u) (t := t) (i := i) (r := r) s x3_2 (4 : Int32)) ?_
          rintro v_10 -
          dsimp only [bkE, F_i0]
          refine ge_run (pc' := 19) (L' := [.ref 1638, .int x1, .int x2_1, .int x3_2]) (S' := [.int x1, .int v_10, .int x2_1]) 1 rfl ?_
          refine ge_ne rfl (fun h_11 => ?_) (fun h_12 => ?_)
          · refine ge_run (pc' := 25) (L' := [.ref 1638, .int x1, .int x2_1, .int x3_2]) (S' := [.int (shl (1 : Int32) x3_2), .int x2_1]) 4 rfl ?_
            exact ge_leaf rfl
          · refine ge_run (pc' := 25) (L' := [.ref 1638, .int x1, .int x2_1, .int x3_2]) (S' := [.int (0 : Int32), .int x2_1]) 1 rfl ?_
            exact ge_leaf rfl
        · refine ge_run (pc' := 25) (L' := [.ref 1638, .int x1, .int x2_1, .int x3_2]) (S' := [.int (0 : Int32), .int x2_1]) 1 rfl ?_
          exact ge_leaf rfl
      · rintro y_8 _ rfl
        try dsimp only
        refine ge_run (pc' := 4) (L' := [.ref 1638, .int x1, .int (x2_1 ||| y_8), .int (x3_2 + (1 : Int32))]) (S' := []) 4 rfl ?_
        exact ge_leaf (K := kX _ _) rfl
    · exact ge_leaf (K := kX _ _) (Exists.intro _ rfl)
  · rintro x2_3 _ ⟨w_4, rfl⟩
    try dsimp only
    refine ge_run (pc' := 30) (L' := [.ref 1638, .int x1, .int x2_3, w_4]) (S' := [.int x2_3]) 1 rfl ?_
    exact ge_ret rfl rfl (And.intro rfl trivial)
def f_Mo_cell (i : MI) (x1 : Int32) (x2 : Int32) : Option (Int32 × MI) :=
  bnd (wr i 1638 0 (0 : Int32)) (fun i_1 => (f_Mo_noCell x1).bind (fun v_2 => (f_Mo_throwsIf i_1 v_2 (1 : Int32)).bind (fun (v_3, i_4) => if v_3 = 0 then ((f_Mo_in x2 (0 : Int32) (3 : Int32)).bind (fun v_6 => (if v_6 = 0 then (some (1 : Int32)) else (some (0 : Int32)) : Option (Int32)).bind (fun y_7 => (f_Mo_throwsIf i_4 y_7 (2 : Int32)).bind (fun (v_10, i_11) => if v_10 = 0 then (sw x2 0 [(grd ((11 : Int32) + x1) 2115 (some ((i_11 1639 (ix ((11 : Int32) + x1))), i_11))), ((f_Mo_driftOf i_11 x1).bind (fun v_17 => some (v_17, i_11))), ((f_Mo_fishIn i_11 x1).bind (fun v_19 => some (v_19, i_11)))] (((f_Mo_comesBack i_11 x1).bind (fun v_21 => if v_21 = 0 then (some ((0 : Int32), i_11)) else (some ((1 : Int32), i_11)))))) else (some ((0 : Int32), i_11)))))) else (some ((0 : Int32), i_4)))))
set_option maxHeartbeats 4000000 in
theorem c_Mo_cell {n u : Nat} {t : MT} {i : MI} {r : MR} (s : Sh n t r) (x1 : Int32) (x2 : Int32) : Cn 4 275 [.ref 1638, .int x1, .int x2] (n, u, t, i, r) (f_Mo_cell i x1 x2) (F_i1 n u t r) PT := by
  refine cn_of (Y := K_Mo_cell) (L0 := [.ref 1638, .int x1, .int x2]) rfl rfl rfl ?_
  intro d hd
  unfold f_Mo_cell
  refine ge_run (pc' := 2) (L' := [.ref 1638, .int x1, .int x2]) (S' := [.int (0 : Int32), .ref 1638]) 2 rfl ?_
  refine ge_putI rfl (t1638 s) (Nat.le_of_ble_eq_true rfl) rfl (fun i_1 => ?_)
  refine ge_run (pc' := 5) (L' := [.ref 1638, .int x1, .int x2]) (S' := [.int x1, .ref 1638]) 2 rfl ?_
  refine ge_cs rfl rfl rfl rfl rfl rfl (D := 2) (Nat.le_trans (by decide) hd) (c_Mo_noCell (n := n) (u := u) (t := t) (i := i_1) (r := r) s x1) ?_
  rintro v_2 -
  dsimp only [bkE, F_i0]
  refine ge_run (pc' := 7) (L' := [.ref 1638, .int x1, .int x2]) (S' := [.int (1 : Int32), .int v_2, .ref 1638]) 1 rfl ?_
  refine ge_cv rfl rfl rfl (t1638 s) rfl rfl rfl (D := 1) (Nat.le_trans (by decide) hd) (c_Mo_throwsIf (n := n) (u := u) (t := t) (i := i_1) (r := r) s v_2 (1 : Int32)) ?_
  rintro ⟨v_3, i_4⟩ -
  dsimp only [bkE, F_i1]
  refine ge_ne0 rfl (fun h_5 => ?_) (fun h_25 => ?_)
  · refine ge_run (pc' := 13) (L' := [.ref 1638, .int x1, .int x2]) (S' := [.int (3 : Int32), .int (0 : Int32), .int x2, .ref 1638]) 4 rfl ?_
    refine ge_cs rfl rfl rfl rfl rfl rfl (D := 1) (Nat.le_trans (by decide) hd) (c_Mo_in (n := n) (u := u) (t := t) (i := i_4) (r := r) s x2 (0 : Int32) (3 : Int32)) ?_
    rintro v_6 -
    dsimp only [bkE, F_i0]
    refine ge_bind (K1 := fun (q : Int32) e => e = .inl (18, [.ref 1638, .int x1, .int x2], [.int q, .ref 1638], (n, u, t, i_4, r))) ?_ ?_
    · refine ge_ne0 rfl (fun h_8 => ?_) (fun h_9 => ?_)
      · refine ge_run (pc' := 18) (L' := [.ref 1638, .int x1, .int x2]) (S' := [.int (1 : Int32), .ref 1638]) 2 rfl ?_
        exact ge_leaf rfl
      · refine ge_run (pc' := 18) (L' := [.ref 1638, .int x1, .int x2]) (S' := [.int (0 : Int32), .ref 1638]) 1 rfl ?_
        exact ge_leaf rfl
    · rintro y_7 _ rfl
      try dsimp only
      refine ge_run (pc' := 19) (L' := [.ref 1638, .int x1, .int x2]) (S' := [.int (2 : Int32), .int y_7, .ref 1638]) 1 rfl ?_
      refine ge_cv rfl rfl rfl (t1638 s) rfl rfl rfl (D := 1) (Nat.le_trans (by decide) hd) (c_Mo_throwsIf (n := n) (u := u) (t := t) (i := i_4) (r := r) s y_7 (2 : Int32)) ?_
      rintro ⟨v_10, i_11⟩ -
      dsimp only [bkE, F_i1]
      refine ge_eq0 rfl (fun h_12 => ?_) (fun h_24 => ?_)
      · refine ge_run (pc' := 24) (L' := [.ref 1638, .int x1, .int x2]) (S' := [.int x2]) 1 rfl ?_
        refine ge_sw rfl rfl (And.intro ?_ (And.intro ?_ (And.intro ?_ trivial))) ?_
        · refine ge_run (pc' := 26) (L' := [.ref 1638, .int x1, .int x2]) (S' := [.ref 1638]) 1 rfl ?_
          refine ge_getR (b := 1639) rfl (t1638 s) rfl (r1638_1 s) (Nat.le_of_ble_eq_true rfl) ?_
          refine ge_run (pc' := 30) (L' := [.ref 1638, .int x1, .int x2]) (S' := [.int ((11 : Int32) + x1), .ref 1639]) 3 rfl ?_
          refine ge_grd (fun g_14 g_15 => ?_)
          refine ge_iald (jn := (ix ((11 : Int32) + x1))) rfl (t1639 s) ⟨g_14, rfl⟩ g_15 ?_
          exact ge_ret rfl rfl (And.intro rfl trivial)
        · refine ge_run (pc' := 34) (L' := [.ref 1638, .int x1, .int x2]) (S' := [.int x1, .ref 1638]) 2 rfl ?_
          refine ge_cv rfl rfl rfl (t1638 s) rfl rfl rfl (D := 2) (Nat.le_trans (by decide) hd) (c_Mo_driftOf (n := n) (u := u) (t := t) (i := i_11) (r := r) s x1) ?_
          rintro v_17 -
          dsimp only [bkE, F_i0]
          exact ge_ret rfl rfl (And.intro rfl trivial)
        · refine ge_run (pc' := 38) (L' := [.ref 1638, .int x1, .int x2]) (S' := [.int x1, .ref 1638]) 2 rfl ?_
          refine ge_cv rfl rfl rfl (t1638 s) rfl rfl rfl (D := 3) (Nat.le_trans (by decide) hd) (c_Mo_fishIn (n := n) (u := u) (t := t) (i := i_11) (r := r) s x1) ?_
          rintro v_19 -
          dsimp only [bkE, F_i0]
          exact ge_ret rfl rfl (And.intro rfl trivial)
        · refine ge_run (pc' := 42) (L' := [.ref 1638, .int x1, .int x2]) (S' := [.int x1, .ref 1638]) 2 rfl ?_
          refine ge_cv rfl rfl rfl (t1638 s) rfl rfl rfl (D := 3) (Nat.le_trans (by decide) hd) (c_Mo_comesBack (n := n) (u := u) (t := t) (i := i_11) (r := r) s x1) ?_
          rintro v_21 -
          dsimp only [bkE, F_i0]
          refine ge_eq0 rfl (fun h_22 => ?_) (fun h_23 => ?_)
          · refine ge_run (pc' := 47) (L' := [.ref 1638, .int x1, .int x2]) (S' := [.int (0 : Int32)]) 1 rfl ?_
            exact ge_ret rfl rfl (And.intro rfl trivial)
          · refine ge_run (pc' := 47) (L' := [.ref 1638, .int x1, .int x2]) (S' := [.int (1 : Int32)]) 2 rfl ?_
            exact ge_ret rfl rfl (And.intro rfl trivial)
      · refine ge_run (pc' := 22) (L' := [.ref 1638, .int x1, .int x2]) (S' := [.int (0 : Int32)]) 1 rfl ?_
        exact ge_ret rfl rfl (And.intro rfl trivial)
  · refine ge_run (pc' := 22) (L' := [.ref 1638, .int x1, .int x2]) (S' := [.int (0 : Int32)]) 1 rfl ?_
    exact ge_ret rfl rfl (And.intro rfl trivial)
def f_Mo_cellOf (i : MI) (x1 : Int32) : Option (Int32) :=
  (f_Mo_of i x1 (3 : Int32)).bind (fun v_1 => if v_1 = 0 then ((f_Mo_of i x1 (4 : Int32)).bind (fun v_3 => some (v_3))) else ((f_Mo_of i x1 (3 : Int32)).bind (fun v_5 => if v_5 = (1 : Int32) then ((f_Mo_of i x1 (4 : Int32)).bind (fun v_7 => (f_Mo_ofBoat i v_7 (0 : Int32)).bind (fun v_8 => some (v_8)))) else (some ((-1 : Int32))))))
set_option maxHeartbeats 4000000 in
theorem c_Mo_cellOf {n u : Nat} {t : MT} {i : MI} {r : MR} (s : Sh n t r) (x1 : Int32) : Cn 3 276 [.ref 1638, .int x1] (n, u, t, i, r) (f_Mo_cellOf i x1) (F_i0 n u t i r) PT := by
  refine cn_of (Y := K_Mo_cellOf) (L0 := [.ref 1638, .int x1]) rfl rfl rfl ?_
  intro d hd
  unfold f_Mo_cellOf
  refine ge_run (pc' := 3) (L' := [.ref 1638, .int x1]) (S' := [.int (3 : Int32), .int x1, .ref 1638]) 3 rfl ?_
  refine ge_cv rfl rfl rfl (t1638 s) rfl rfl rfl (D := 2) (Nat.le_trans (by decide) hd) (c_Mo_of (n := n) (u := u) (t := t) (i := i) (r := r) s x1 (3 : Int32)) ?_
  rintro v_1 -
  dsimp only [bkE, F_i0]
  refine ge_ne0 rfl (fun h_2 => ?_) (fun h_4 => ?_)
  · refine ge_run (pc' := 8) (L' := [.ref 1638, .int x1]) (S' := [.int (4 : Int32), .int x1, .ref 1638]) 3 rfl ?_
    refine ge_cv rfl rfl rfl (t1638 s) rfl rfl rfl (D := 2) (Nat.le_trans (by decide) hd) (c_Mo_of (n := n) (u := u) (t := t) (i := i) (r := r) s x1 (4 : Int32)) ?_
    rintro v_3 -
    dsimp only [bkE, F_i0]
    refine ge_run (pc' := 25) (L' := [.ref 1638, .int x1]) (S' := [.int v_3]) 1 rfl ?_
    exact ge_ret rfl rfl (And.intro rfl trivial)
  · refine ge_run (pc' := 13) (L' := [.ref 1638, .int x1]) (S' := [.int (3 : Int32), .int x1, .ref 1638]) 3 rfl ?_
    refine ge_cv rfl rfl rfl (t1638 s) rfl rfl rfl (D := 2) (Nat.le_trans (by decide) hd) (c_Mo_of (n := n) (u := u) (t := t) (i := i) (r := r) s x1 (3 : Int32)) ?_
    rintro v_5 -
    dsimp only [bkE, F_i0]
    refine ge_run (pc' := 15) (L' := [.ref 1638, .int x1]) (S' := [.int (1 : Int32), .int v_5]) 1 rfl ?_
    refine ge_ne rfl (fun h_6 => ?_) (fun h_9 => ?_)
    · refine ge_run (pc' := 20) (L' := [.ref 1638, .int x1]) (S' := [.int (4 : Int32), .int x1, .ref 1638, .ref 1638]) 4 rfl ?_
      refine ge_cv rfl rfl rfl (t1638 s) rfl rfl rfl (D := 2) (Nat.le_trans (by decide) hd) (c_Mo_of (n := n) (u := u) (t := t) (i := i) (r := r) s x1 (4 : Int32)) ?_
      rintro v_7 -
      dsimp only [bkE, F_i0]
      refine ge_run (pc' := 22) (L' := [.ref 1638, .int x1]) (S' := [.int (0 : Int32), .int v_7, .ref 1638]) 1 rfl ?_
      refine ge_cv rfl rfl rfl (t1638 s) rfl rfl rfl (D := 2) (Nat.le_trans (by decide) hd) (c_Mo_ofBoat (n := n) (u := u) (t := t) (i := i) (r := r) s v_7 (0 : Int32)) ?_
      rintro v_8 -
      dsimp only [bkE, F_i0]
      refine ge_run (pc' := 25) (L' := [.ref 1638, .int x1]) (S' := [.int v_8]) 1 rfl ?_
      exact ge_ret rfl rfl (And.intro rfl trivial)
    · refine ge_run (pc' := 25) (L' := [.ref 1638, .int x1]) (S' := [.int (-1 : Int32)]) 1 rfl ?_
      exact ge_ret rfl rfl (And.intro rfl trivial)
def f_Mo_caughtIn (i : MI) (x1 : Int32) : Option (Int32 × MI) :=
  (f_Mo_keepsAll i).bind (fun i_1 => (itr (σ := Int32 × Int32 × MI) (ρ := Int32 × MI) (fun (x2_2, x3_3, i_4) => if (60 : Int32) < x3_3 then (some (.inr (x2_2, i_4))) else (if x2_2 = (-1 : Int32) then ((f_Mo_of i_4 x1 (3 : Int32)).bind (fun v_11 => (if v_11 = 0 then (some (-1 : Int32)) else (some x3_3) : Option (Int32)).bind (fun y_12 => (f_Mo_oneDay i_4 (1 : Int32)).bind (fun (v_15, i_16) => some (.inl (y_12, (x3_3 + (1 : Int32)), i_16)))))) else (some (.inr (x2_2, i_4))))) 1000000 ((-1 : Int32), (0 : Int32), i_1)).bind (fun (x2_5, i_6) => (f_Mo_bringsBack i_6).bind (fun i_18 => some (x2_5, i_18))))
set_option maxHeartbeats 4000000 in
theorem c_Mo_caughtIn {n u : Nat} {t : MT} {i : MI} {r : MR} (s : Sh n t r) (x1 : Int32) : Cn 11 277 [.ref 1638, .int x1] (n, u, t, i, r) (f_Mo_caughtIn i x1) (F_i1 n u t r) PT := by
  refine cn_of (Y := K_Mo_caughtIn) (L0 := [.ref 1638, .int x1, uV, uV]) rfl rfl rfl ?_
  intro d hd
  unfold f_Mo_caughtIn
  refine ge_run (pc' := 1) (L' := [.ref 1638, .int x1, uV, uV]) (S' := [.ref 1638]) 1 rfl ?_
  refine ge_cv rfl rfl rfl (t1638 s) rfl rfl rfl (D := 1) (Nat.le_trans (by decide) hd) (c_Mo_keepsAll (n := n) (u := u) (t := t) (i := i) (r := r) s ) ?_
  rintro i_1 -
  dsimp only [bkE, F_v1]
  refine ge_run (pc' := 6) (L' := [.ref 1638, .int x1, .int (-1 : Int32), .int (0 : Int32)]) (S' := []) 4 rfl ?_
  refine ge_bind (K1 := fun (q : Int32 × MI) e => ∃ w_7 : Value, e = .inl (27, [.ref 1638, .int x1, .int q.1, w_7], [], (n, u, t, q.2, r))) (ge_itr (C := fun (q : Int32 × Int32 × MI) e => e = .inl (6, [.ref 1638, .int x1, .int q.1, .int q.2.1], [], (n, u, t, q.2.2, r))) ?_ _ _ _ rfl) ?_
  · rintro ⟨x2_2, x3_3, i_4⟩ _ rfl
    try dsimp only
    refine ge_run (pc' := 8) (L' := [.ref 1638, .int x1, .int x2_2, .int x3_3]) (S' := [.int (60 : Int32), .int x3_3]) 2 rfl ?_
    refine ge_gt rfl (fun h_8 => ?_) (fun h_9 => ?_)
    · exact ge_leaf (K := kX _ _) (Exists.intro _ rfl)
    · refine ge_run (pc' := 11) (L' := [.ref 1638, .int x1, .int x2_2, .int x3_3]) (S' := [.int (-1 : Int32), .int x2_2]) 2 rfl ?_
      refine ge_ne rfl (fun h_10 => ?_) (fun h_17 => ?_)
      · refine ge_run (pc' := 15) (L' := [.ref 1638, .int x1, .int x2_2, .int x3_3]) (S' := [.int (3 : Int32), .int x1, .ref 1638]) 3 rfl ?_
        refine ge_cv rfl rfl rfl (t1638 s) rfl rfl rfl (D := 2) (Nat.le_trans (by decide) hd) (c_Mo_of (n := n) (u := u) (t := t) (i := i_4) (r := r) s x1 (3 : Int32)) ?_
        rintro v_11 -
        dsimp only [bkE, F_i0]
        refine ge_bind (K1 := fun (q : Int32) e => e = .inl (20, [.ref 1638, .int x1, .int x2_2, .int x3_3], [.int q], (n, u, t, i_4, r))) ?_ ?_
        · refine ge_ne0 rfl (fun h_13 => ?_) (fun h_14 => ?_)
          · refine ge_run (pc' := 20) (L' := [.ref 1638, .int x1, .int x2_2, .int x3_3]) (S' := [.int (-1 : Int32)]) 2 rfl ?_
            exact ge_leaf rfl
          · refine ge_run (pc' := 20) (L' := [.ref 1638, .int x1, .int x2_2, .int x3_3]) (S' := [.int x3_3]) 1 rfl ?_
            exact ge_leaf rfl
        · rintro y_12 _ rfl
          try dsimp only
          refine ge_run (pc' := 23) (L' := [.ref 1638, .int x1, .int y_12, .int x3_3]) (S' := [.int (1 : Int32), .ref 1638]) 3 rfl ?_
          refine ge_cv rfl rfl rfl (t1638 s) rfl rfl rfl (D := 10) (Nat.le_trans (by decide) hd) (c_Mo_oneDay (n := n) (u := u) (t := t) (i := i_4) (r := r) s (1 : Int32)) ?_
          rintro ⟨v_15, i_16⟩ -
          dsimp only [bkE, F_i1]
          refine ge_run (pc' := 6) (L' := [.ref 1638, .int x1, .int y_12, .int (x3_3 + (1 : Int32))]) (S' := []) 3 rfl ?_
          exact ge_leaf (K := kX _ _) rfl
      · exact ge_leaf (K := kX _ _) (Exists.intro _ rfl)
  · rintro ⟨x2_5, i_6⟩ _ ⟨w_7, rfl⟩
    try dsimp only
    refine ge_run (pc' := 28) (L' := [.ref 1638, .int x1, .int x2_5, w_7]) (S' := [.ref 1638]) 1 rfl ?_
    refine ge_cv rfl rfl rfl (t1638 s) rfl rfl rfl (D := 1) (Nat.le_trans (by decide) hd) (c_Mo_bringsBack (n := n) (u := u) (t := t) (i := i_6) (r := r) s ) ?_
    rintro i_18 -
    dsimp only [bkE, F_v1]
    refine ge_run (pc' := 30) (L' := [.ref 1638, .int x1, .int x2_5, w_7]) (S' := [.int x2_5]) 1 rfl ?_
    exact ge_ret rfl rfl (And.intro rfl trivial)
def f_Mo_mightSay (i : MI) (x1 : Int32) (x2 : Int32) : Option (Int32) :=
  (f_Mo_ofDead i x1 (0 : Int32)).bind (fun v_1 => (f_Mo_of i x2 (0 : Int32)).bind (fun v_2 => (f_Mo_has v_1 v_2).bind (fun v_3 => if v_3 = 0 then (some ((0 : Int32))) else ((f_Mo_ofDead i x1 (1 : Int32)).bind (fun v_6 => (f_Mo_of i x2 (1 : Int32)).bind (fun v_7 => if v_6 < v_7 then (some ((0 : Int32))) else (some ((1 : Int32)))))))))
set_option maxHeartbeats 4000000 in
theorem c_Mo_mightSay {n u : Nat} {t : MT} {i : MI} {r : MR} (s : Sh n t r) (x1 : Int32) (x2 : Int32) : Cn 3 278 [.ref 1638, .int x1, .int x2] (n, u, t, i, r) (f_Mo_mightSay i x1 x2) (F_i0 n u t i r) PT := by
  refine cn_of (Y := K_Mo_mightSay) (L0 := [.ref 1638, .int x1, .int x2]) rfl rfl rfl ?_
  intro d hd
  unfold f_Mo_mightSay
  refine ge_run (pc' := 3) (L' := [.ref 1638, .int x1, .int x2]) (S' := [.int (0 : Int32), .int x1, .ref 1638]) 3 rfl ?_
  refine ge_cv rfl rfl rfl (t1638 s) rfl rfl rfl (D := 1) (Nat.le_trans (by decide) hd) (c_Mo_ofDead (n := n) (u := u) (t := t) (i := i) (r := r) s x1 (0 : Int32)) ?_
  rintro v_1 -
  dsimp only [bkE, F_i0]
  refine ge_run (pc' := 7) (L' := [.ref 1638, .int x1, .int x2]) (S' := [.int (0 : Int32), .int x2, .ref 1638, .int v_1]) 3 rfl ?_
  refine ge_cv rfl rfl rfl (t1638 s) rfl rfl rfl (D := 2) (Nat.le_trans (by decide) hd) (c_Mo_of (n := n) (u := u) (t := t) (i := i) (r := r) s x2 (0 : Int32)) ?_
  rintro v_2 -
  dsimp only [bkE, F_i0]
  refine ge_cs rfl rfl rfl rfl rfl rfl (D := 1) (Nat.le_trans (by decide) hd) (c_Mo_has (n := n) (u := u) (t := t) (i := i) (r := r) s v_1 v_2) ?_
  rintro v_3 -
  dsimp only [bkE, F_i0]
  refine ge_eq0 rfl (fun h_4 => ?_) (fun h_5 => ?_)
  · refine ge_run (pc' := 22) (L' := [.ref 1638, .int x1, .int x2]) (S' := [.int (0 : Int32)]) 1 rfl ?_
    exact ge_retz rfl rfl (Or.inl rfl) (And.intro rfl trivial)
  · refine ge_run (pc' := 13) (L' := [.ref 1638, .int x1, .int x2]) (S' := [.int (1 : Int32), .int x1, .ref 1638]) 3 rfl ?_
    refine ge_cv rfl rfl rfl (t1638 s) rfl rfl rfl (D := 1) (Nat.le_trans (by decide) hd) (c_Mo_ofDead (n := n) (u := u) (t := t) (i := i) (r := r) s x1 (1 : Int32)) ?_
    rintro v_6 -
    dsimp only [bkE, F_i0]
    refine ge_run (pc' := 17) (L' := [.ref 1638, .int x1, .int x2]) (S' := [.int (1 : Int32), .int x2, .ref 1638, .int v_6]) 3 rfl ?_
    refine ge_cv rfl rfl rfl (t1638 s) rfl rfl rfl (D := 2) (Nat.le_trans (by decide) hd) (c_Mo_of (n := n) (u := u) (t := t) (i := i) (r := r) s x2 (1 : Int32)) ?_
    rintro v_7 -
    dsimp only [bkE, F_i0]
    refine ge_lt rfl (fun h_8 => ?_) (fun h_9 => ?_)
    · refine ge_run (pc' := 22) (L' := [.ref 1638, .int x1, .int x2]) (S' := [.int (0 : Int32)]) 1 rfl ?_
      exact ge_retz rfl rfl (Or.inl rfl) (And.intro rfl trivial)
    · refine ge_run (pc' := 22) (L' := [.ref 1638, .int x1, .int x2]) (S' := [.int (1 : Int32)]) 2 rfl ?_
      exact ge_retz rfl rfl (Or.inr rfl) (And.intro rfl trivial)
def f_Mo_maybeOf (i : MI) (x1 : Int32) : Option (Int32) :=
  (itr (σ := Int32 × Int32) (ρ := Int32) (fun (x2_1, x3_2) => (f_Mo_deadOnes i).bind (fun v_5 => if x3_2 < v_5 then ((f_Mo_mightSay i x3_2 x1).bind (fun v_7 => (if v_7 = 0 then (some (0 : Int32)) else (some (shl (1 : Int32) x3_2)) : Option (Int32)).bind (fun y_8 => some (.inl ((x2_1 ||| y_8), (x3_2 + (1 : Int32))))))) else (some (.inr x2_1)))) 1000000 ((0 : Int32), (0 : Int32))).bind (fun x2_3 => some (x2_3))
set_option maxHeartbeats 4000000 in
theorem c_Mo_maybeOf {n u : Nat} {t : MT} {i : MI} {r : MR} (s : Sh n t r) (x1 : Int32) : Cn 4 279 [.ref 1638, .int x1] (n, u, t, i, r) (f_Mo_maybeOf i x1) (F_i0 n u t i r) PT := by
  refine cn_of (Y := K_Mo_maybeOf) (L0 := [.ref 1638, .int x1, uV, uV]) rfl rfl rfl ?_
  intro d hd
  unfold f_Mo_maybeOf
  refine ge_run (pc' := 4) (L' := [.ref 1638, .int x1, .int (0 : Int32), .int (0 : Int32)]) (S' := []) 4 rfl ?_
  refine ge_bind (K1 := fun (q : Int32) e => ∃ w_4 : Value, e = .inl (23, [.ref 1638, .int x1, .int q, w_4], [], (n, u, t, i, r))) (ge_itr (C := fun (q : Int32 × Int32) e => e = .inl (4, [.ref 1638, .int x1, .int q.1, .int q.2], [], (n, u, t, i, r))) ?_ _ _ _ rfl) ?_
  · rintro ⟨x2_1, x3_2⟩ _ rfl
    try dsimp only
    refine ge_run (pc' := 6) (L' := [.ref 1638, .int x1, .int x2_1, .int x3_2]) (S' := [.ref 1638, .int x3_2]) 2 rfl ?_
    refine ge_cv rfl rfl rfl (t1638 s) rfl rfl rfl (D := 1) (Nat.le_trans (by decide) hd) (c_Mo_deadOnes (n := n) (u := u) (t := t) (i := i) (r := r) s ) ?_
    rintro v_5 -
    dsimp only [bkE, F_i0]
    refine ge_ge rfl (fun h_6 => ?_) (fun h_11 => ?_)
    · refine ge_run (pc' := 12) (L' := [.ref 1638, .int x1, .int x2_1, .int x3_2]) (S' := [.int x1, .int x3_2, .ref 1638, .int x2_1]) 4 rfl ?_
      refine ge_cv rfl rfl rfl (t1638 s) rfl rfl rfl (D := 3) (Nat.le_trans (by decide) hd) (c_Mo_mightSay (n := n) (u := u) (t := t) (i := i) (r := r) s x3_2 x1) ?_
      rintro v_7 -
      dsimp only [bkE, F_i0]
      refine ge_bind (K1 := fun (q : Int32) e => e = .inl (19, [.ref 1638, .int x1, .int x2_1, .int x3_2], [.int q, .int x2_1], (n, u, t, i, r))) ?_ ?_
      · refine ge_eq0 rfl (fun h_9 => ?_) (fun h_10 => ?_)
        · refine ge_run (pc' := 19) (L' := [.ref 1638, .int x1, .int x2_1, .int x3_2]) (S' := [.int (0 : Int32), .int x2_1]) 1 rfl ?_
          exact ge_leaf rfl
        · refine ge_run (pc' := 19) (L' := [.ref 1638, .int x1, .int x2_1, .int x3_2]) (S' := [.int (shl (1 : Int32) x3_2), .int x2_1]) 4 rfl ?_
          exact ge_leaf rfl
      · rintro y_8 _ rfl
        try dsimp only
        refine ge_run (pc' := 4) (L' := [.ref 1638, .int x1, .int (x2_1 ||| y_8), .int (x3_2 + (1 : Int32))]) (S' := []) 4 rfl ?_
        exact ge_leaf (K := kX _ _) rfl
    · exact ge_leaf (K := kX _ _) (Exists.intro _ rfl)
  · rintro x2_3 _ ⟨w_4, rfl⟩
    try dsimp only
    refine ge_run (pc' := 24) (L' := [.ref 1638, .int x1, .int x2_3, w_4]) (S' := [.int x2_3]) 1 rfl ?_
    exact ge_ret rfl rfl (And.intro rfl trivial)
def f_Mo_fish (i : MI) (x1 : Int32) (x2 : Int32) : Option (Int32 × MI) :=
  bnd (wr i 1638 0 (0 : Int32)) (fun i_1 => (f_Mo_noFish i_1 x1).bind (fun v_2 => (f_Mo_throwsIf i_1 v_2 (1 : Int32)).bind (fun (v_3, i_4) => if v_3 = 0 then ((f_Mo_in x2 (0 : Int32) (9 : Int32)).bind (fun v_6 => (if v_6 = 0 then (some (1 : Int32)) else (some (0 : Int32)) : Option (Int32)).bind (fun y_7 => (f_Mo_throwsIf i_4 y_7 (2 : Int32)).bind (fun (v_10, i_11) => if v_10 = 0 then (sw x2 4 [((f_Mo_cellOf i_11 x1).bind (fun v_14 => some (v_14, i_11))), ((f_Mo_of i_11 x1 (3 : Int32)).bind (fun v_16 => if v_16 = (1 : Int32) then ((f_Mo_of i_11 x1 (4 : Int32)).bind (fun v_18 => some (v_18, i_11))) else (some ((-1 : Int32), i_11)))), ((f_Mo_turnsBy i_11 x1).bind (fun (v_21, i_22) => some (v_21, i_22))), ((f_Mo_priceOf i_11 x1).bind (fun (v_24, i_25) => some (v_24, i_25))), ((f_Mo_caughtIn i_11 x1).bind (fun (v_27, i_28) => some (v_27, i_28))), ((f_Mo_maybeOf i_11 x1).bind (fun v_30 => some (v_30, i_11)))] (((f_Mo_of i_11 x1 x2).bind (fun v_32 => some (v_32, i_11))))) else (some ((0 : Int32), i_11)))))) else (some ((0 : Int32), i_4)))))
set_option maxHeartbeats 4000000 in
theorem c_Mo_fish {n u : Nat} {t : MT} {i : MI} {r : MR} (s : Sh n t r) (x1 : Int32) (x2 : Int32) : Cn 12 280 [.ref 1638, .int x1, .int x2] (n, u, t, i, r) (f_Mo_fish i x1 x2) (F_i1 n u t r) PT := by
  refine cn_of (Y := K_Mo_fish) (L0 := [.ref 1638, .int x1, .int x2]) rfl rfl rfl ?_
  intro d hd
  unfold f_Mo_fish
  refine ge_run (pc' := 2) (L' := [.ref 1638, .int x1, .int x2]) (S' := [.int (0 : Int32), .ref 1638]) 2 rfl ?_
  refine ge_putI rfl (t1638 s) (Nat.le_of_ble_eq_true rfl) rfl (fun i_1 => ?_)
  refine ge_run (pc' := 6) (L' := [.ref 1638, .int x1, .int x2]) (S' := [.int x1, .ref 1638, .ref 1638]) 3 rfl ?_
  refine ge_cv rfl rfl rfl (t1638 s) rfl rfl rfl (D := 2) (Nat.le_trans (by decide) hd) (c_Mo_noFish (n := n) (u := u) (t := t) (i := i_1) (r := r) s x1) ?_
  rintro v_2 -
  dsimp only [bkE, F_i0]
  refine ge_run (pc' := 8) (L' := [.ref 1638, .int x1, .int x2]) (S' := [.int (1 : Int32), .int v_2, .ref 1638]) 1 rfl ?_
  refine ge_cv rfl rfl rfl (t1638 s) rfl rfl rfl (D := 1) (Nat.le_trans (by decide) hd) (c_Mo_throwsIf (n := n) (u := u) (t := t) (i := i_1) (r := r) s v_2 (1 : Int32)) ?_
  rintro ⟨v_3, i_4⟩ -
  dsimp only [bkE, F_i1]
  refine ge_ne0 rfl (fun h_5 => ?_) (fun h_34 => ?_)
  · refine ge_run (pc' := 14) (L' := [.ref 1638, .int x1, .int x2]) (S' := [.int (9 : Int32), .int (0 : Int32), .int x2, .ref 1638]) 4 rfl ?_
    refine ge_cs rfl rfl rfl rfl rfl rfl (D := 1) (Nat.le_trans (by decide) hd) (c_Mo_in (n := n) (u := u) (t := t) (i := i_4) (r := r) s x2 (0 : Int32) (9 : Int32)) ?_
    rintro v_6 -
    dsimp only [bkE, F_i0]
    refine ge_bind (K1 := fun (q : Int32) e => e = .inl (19, [.ref 1638, .int x1, .int x2], [.int q, .ref 1638], (n, u, t, i_4, r))) ?_ ?_
    · refine ge_ne0 rfl (fun h_8 => ?_) (fun h_9 => ?_)
      · refine ge_run (pc' := 19) (L' := [.ref 1638, .int x1, .int x2]) (S' := [.int (1 : Int32), .ref 1638]) 2 rfl ?_
        exact ge_leaf rfl
      · refine ge_run (pc' := 19) (L' := [.ref 1638, .int x1, .int x2]) (S' := [.int (0 : Int32), .ref 1638]) 1 rfl ?_
        exact ge_leaf rfl
    · rintro y_7 _ rfl
      try dsimp only
      refine ge_run (pc' := 20) (L' := [.ref 1638, .int x1, .int x2]) (S' := [.int (2 : Int32), .int y_7, .ref 1638]) 1 rfl ?_
      refine ge_cv rfl rfl rfl (t1638 s) rfl rfl rfl (D := 1) (Nat.le_trans (by decide) hd) (c_Mo_throwsIf (n := n) (u := u) (t := t) (i := i_4) (r := r) s y_7 (2 : Int32)) ?_
      rintro ⟨v_10, i_11⟩ -
      dsimp only [bkE, F_i1]
      refine ge_eq0 rfl (fun h_12 => ?_) (fun h_33 => ?_)
      · refine ge_run (pc' := 25) (L' := [.ref 1638, .int x1, .int x2]) (S' := [.int x2]) 1 rfl ?_
        refine ge_sw rfl rfl (And.intro ?_ (And.intro ?_ (And.intro ?_ (And.intro ?_ (And.intro ?_ (And.intro ?_ trivial)))))) ?_
        · refine ge_run (pc' := 28) (L' := [.ref 1638, .int x1, .int x2]) (S' := [.int x1, .ref 1638]) 2 rfl ?_
          refine ge_cv rfl rfl rfl (t1638 s) rfl rfl rfl (D := 3) (Nat.le_trans (by decide) hd) (c_Mo_cellOf (n := n) (u := u) (t := t) (i := i_11) (r := r) s x1) ?_
          rintro v_14 -
          dsimp only [bkE, F_i0]
          exact ge_ret rfl rfl (And.intro rfl trivial)
        · refine ge_run (pc' := 33) (L' := [.ref 1638, .int x1, .int x2]) (S' := [.int (3 : Int32), .int x1, .ref 1638]) 3 rfl ?_
          refine ge_cv rfl rfl rfl (t1638 s) rfl rfl rfl (D := 2) (Nat.le_trans (by decide) hd) (c_Mo_of (n := n) (u := u) (t := t) (i := i_11) (r := r) s x1 (3 : Int32)) ?_
          rintro v_16 -
          dsimp only [bkE, F_i0]
          refine ge_run (pc' := 35) (L' := [.ref 1638, .int x1, .int x2]) (S' := [.int (1 : Int32), .int v_16]) 1 rfl ?_
          refine ge_ne rfl (fun h_17 => ?_) (fun h_19 => ?_)
          · refine ge_run (pc' := 39) (L' := [.ref 1638, .int x1, .int x2]) (S' := [.int (4 : Int32), .int x1, .ref 1638]) 3 rfl ?_
            refine ge_cv rfl rfl rfl (t1638 s) rfl rfl rfl (D := 2) (Nat.le_trans (by decide) hd) (c_Mo_of (n := n) (u := u) (t := t) (i := i_11) (r := r) s x1 (4 : Int32)) ?_
            rintro v_18 -
            dsimp only [bkE, F_i0]
            refine ge_run (pc' := 42) (L' := [.ref 1638, .int x1, .int x2]) (S' := [.int v_18]) 1 rfl ?_
            exact ge_ret rfl rfl (And.intro rfl trivial)
          · refine ge_run (pc' := 42) (L' := [.ref 1638, .int x1, .int x2]) (S' := [.int (-1 : Int32)]) 1 rfl ?_
            exact ge_ret rfl rfl (And.intro rfl trivial)
        · refine ge_run (pc' := 45) (L' := [.ref 1638, .int x1, .int x2]) (S' := [.int x1, .ref 1638]) 2 rfl ?_
          refine ge_cv rfl rfl rfl (t1638 s) rfl rfl rfl (D := 7) (Nat.le_trans (by decide) hd) (c_Mo_turnsBy (n := n) (u := u) (t := t) (i := i_11) (r := r) s x1) ?_
          rintro ⟨v_21, i_22⟩ -
          dsimp only [bkE, F_i1]
          exact ge_ret rfl rfl (And.intro rfl trivial)
        · refine ge_run (pc' := 49) (L' := [.ref 1638, .int x1, .int x2]) (S' := [.int x1, .ref 1638]) 2 rfl ?_
          refine ge_cv rfl rfl rfl (t1638 s) rfl rfl rfl (D := 7) (Nat.le_trans (by decide) hd) (c_Mo_priceOf (n := n) (u := u) (t := t) (i := i_11) (r := r) s x1) ?_
          rintro ⟨v_24, i_25⟩ -
          dsimp only [bkE, F_i1]
          exact ge_ret rfl rfl (And.intro rfl trivial)
        · refine ge_run (pc' := 53) (L' := [.ref 1638, .int x1, .int x2]) (S' := [.int x1, .ref 1638]) 2 rfl ?_
          refine ge_cv rfl rfl rfl (t1638 s) rfl rfl rfl (D := 11) (Nat.le_trans (by decide) hd) (c_Mo_caughtIn (n := n) (u := u) (t := t) (i := i_11) (r := r) s x1) ?_
          rintro ⟨v_27, i_28⟩ -
          dsimp only [bkE, F_i1]
          exact ge_ret rfl rfl (And.intro rfl trivial)
        · refine ge_run (pc' := 57) (L' := [.ref 1638, .int x1, .int x2]) (S' := [.int x1, .ref 1638]) 2 rfl ?_
          refine ge_cv rfl rfl rfl (t1638 s) rfl rfl rfl (D := 4) (Nat.le_trans (by decide) hd) (c_Mo_maybeOf (n := n) (u := u) (t := t) (i := i_11) (r := r) s x1) ?_
          rintro v_30 -
          dsimp only [bkE, F_i0]
          exact ge_ret rfl rfl (And.intro rfl trivial)
        · refine ge_run (pc' := 62) (L' := [.ref 1638, .int x1, .int x2]) (S' := [.int x2, .int x1, .ref 1638]) 3 rfl ?_
          refine ge_cv rfl rfl rfl (t1638 s) rfl rfl rfl (D := 2) (Nat.le_trans (by decide) hd) (c_Mo_of (n := n) (u := u) (t := t) (i := i_11) (r := r) s x1 x2) ?_
          rintro v_32 -
          dsimp only [bkE, F_i0]
          exact ge_ret rfl rfl (And.intro rfl trivial)
      · refine ge_run (pc' := 23) (L' := [.ref 1638, .int x1, .int x2]) (S' := [.int (0 : Int32)]) 1 rfl ?_
        exact ge_ret rfl rfl (And.intro rfl trivial)
  · refine ge_run (pc' := 23) (L' := [.ref 1638, .int x1, .int x2]) (S' := [.int (0 : Int32)]) 1 rfl ?_
    exact ge_ret rfl rfl (And.intro rfl trivial)
def f_Mo_boat (i : MI) (x1 : Int32) (x2 : Int32) : Option (Int32 × MI) :=
  bnd (wr i 1638 0 (0 : Int32)) (fun i_1 => (f_Mo_noBoat i_1 x1).bind (fun v_2 => (f_Mo_throwsIf i_1 v_2 (1 : Int32)).bind (fun (v_3, i_4) => if v_3 = 0 then ((f_Mo_in x2 (0 : Int32) (3 : Int32)).bind (fun v_6 => (if v_6 = 0 then (some (1 : Int32)) else (some (0 : Int32)) : Option (Int32)).bind (fun y_7 => (f_Mo_throwsIf i_4 y_7 (2 : Int32)).bind (fun (v_10, i_11) => if v_10 = 0 then (if x2 = (3 : Int32) then ((f_Mo_aboard i_11 x1).bind (fun v_14 => some (v_14, i_11))) else ((f_Mo_ofBoat i_11 x1 x2).bind (fun v_16 => some (v_16, i_11)))) else (some ((0 : Int32), i_11)))))) else (some ((0 : Int32), i_4)))))
set_option maxHeartbeats 4000000 in
theorem c_Mo_boat {n u : Nat} {t : MT} {i : MI} {r : MR} (s : Sh n t r) (x1 : Int32) (x2 : Int32) : Cn 4 281 [.ref 1638, .int x1, .int x2] (n, u, t, i, r) (f_Mo_boat i x1 x2) (F_i1 n u t r) PT := by
  refine cn_of (Y := K_Mo_boat) (L0 := [.ref 1638, .int x1, .int x2]) rfl rfl rfl ?_
  intro d hd
  unfold f_Mo_boat
  refine ge_run (pc' := 2) (L' := [.ref 1638, .int x1, .int x2]) (S' := [.int (0 : Int32), .ref 1638]) 2 rfl ?_
  refine ge_putI rfl (t1638 s) (Nat.le_of_ble_eq_true rfl) rfl (fun i_1 => ?_)
  refine ge_run (pc' := 6) (L' := [.ref 1638, .int x1, .int x2]) (S' := [.int x1, .ref 1638, .ref 1638]) 3 rfl ?_
  refine ge_cv rfl rfl rfl (t1638 s) rfl rfl rfl (D := 2) (Nat.le_trans (by decide) hd) (c_Mo_noBoat (n := n) (u := u) (t := t) (i := i_1) (r := r) s x1) ?_
  rintro v_2 -
  dsimp only [bkE, F_i0]
  refine ge_run (pc' := 8) (L' := [.ref 1638, .int x1, .int x2]) (S' := [.int (1 : Int32), .int v_2, .ref 1638]) 1 rfl ?_
  refine ge_cv rfl rfl rfl (t1638 s) rfl rfl rfl (D := 1) (Nat.le_trans (by decide) hd) (c_Mo_throwsIf (n := n) (u := u) (t := t) (i := i_1) (r := r) s v_2 (1 : Int32)) ?_
  rintro ⟨v_3, i_4⟩ -
  dsimp only [bkE, F_i1]
  refine ge_ne0 rfl (fun h_5 => ?_) (fun h_18 => ?_)
  · refine ge_run (pc' := 14) (L' := [.ref 1638, .int x1, .int x2]) (S' := [.int (3 : Int32), .int (0 : Int32), .int x2, .ref 1638]) 4 rfl ?_
    refine ge_cs rfl rfl rfl rfl rfl rfl (D := 1) (Nat.le_trans (by decide) hd) (c_Mo_in (n := n) (u := u) (t := t) (i := i_4) (r := r) s x2 (0 : Int32) (3 : Int32)) ?_
    rintro v_6 -
    dsimp only [bkE, F_i0]
    refine ge_bind (K1 := fun (q : Int32) e => e = .inl (19, [.ref 1638, .int x1, .int x2], [.int q, .ref 1638], (n, u, t, i_4, r))) ?_ ?_
    · refine ge_ne0 rfl (fun h_8 => ?_) (fun h_9 => ?_)
      · refine ge_run (pc' := 19) (L' := [.ref 1638, .int x1, .int x2]) (S' := [.int (1 : Int32), .ref 1638]) 2 rfl ?_
        exact ge_leaf rfl
      · refine ge_run (pc' := 19) (L' := [.ref 1638, .int x1, .int x2]) (S' := [.int (0 : Int32), .ref 1638]) 1 rfl ?_
        exact ge_leaf rfl
    · rintro y_7 _ rfl
      try dsimp only
      refine ge_run (pc' := 20) (L' := [.ref 1638, .int x1, .int x2]) (S' := [.int (2 : Int32), .int y_7, .ref 1638]) 1 rfl ?_
      refine ge_cv rfl rfl rfl (t1638 s) rfl rfl rfl (D := 1) (Nat.le_trans (by decide) hd) (c_Mo_throwsIf (n := n) (u := u) (t := t) (i := i_4) (r := r) s y_7 (2 : Int32)) ?_
      rintro ⟨v_10, i_11⟩ -
      dsimp only [bkE, F_i1]
      refine ge_eq0 rfl (fun h_12 => ?_) (fun h_17 => ?_)
      · refine ge_run (pc' := 26) (L' := [.ref 1638, .int x1, .int x2]) (S' := [.int (3 : Int32), .int x2]) 2 rfl ?_
        refine ge_ne rfl (fun h_13 => ?_) (fun h_15 => ?_)
        · refine ge_run (pc' := 29) (L' := [.ref 1638, .int x1, .int x2]) (S' := [.int x1, .ref 1638]) 2 rfl ?_
          refine ge_cv rfl rfl rfl (t1638 s) rfl rfl rfl (D := 3) (Nat.le_trans (by decide) hd) (c_Mo_aboard (n := n) (u := u) (t := t) (i := i_11) (r := r) s x1) ?_
          rintro v_14 -
          dsimp only [bkE, F_i0]
          refine ge_run (pc' := 35) (L' := [.ref 1638, .int x1, .int x2]) (S' := [.int v_14]) 1 rfl ?_
          exact ge_ret rfl rfl (And.intro rfl trivial)
        · refine ge_run (pc' := 34) (L' := [.ref 1638, .int x1, .int x2]) (S' := [.int x2, .int x1, .ref 1638]) 3 rfl ?_
          refine ge_cv rfl rfl rfl (t1638 s) rfl rfl rfl (D := 2) (Nat.le_trans (by decide) hd) (c_Mo_ofBoat (n := n) (u := u) (t := t) (i := i_11) (r := r) s x1 x2) ?_
          rintro v_16 -
          dsimp only [bkE, F_i0]
          exact ge_ret rfl rfl (And.intro rfl trivial)
      · refine ge_run (pc' := 23) (L' := [.ref 1638, .int x1, .int x2]) (S' := [.int (0 : Int32)]) 1 rfl ?_
        exact ge_ret rfl rfl (And.intro rfl trivial)
  · refine ge_run (pc' := 23) (L' := [.ref 1638, .int x1, .int x2]) (S' := [.int (0 : Int32)]) 1 rfl ?_
    exact ge_ret rfl rfl (And.intro rfl trivial)
def f_Mo_moneyOfAll (i : MI) : Option (Int32) :=
  (itr (σ := Int32 × Int32) (ρ := Int32) (fun (x1_1, x2_2) => (f_Mo_buyers i).bind (fun v_5 => if x2_2 < v_5 then ((f_Mo_ofBuyer i x2_2 (1 : Int32)).bind (fun v_7 => some (.inl ((x1_1 + v_7), (x2_2 + (1 : Int32)))))) else (some (.inr x1_1)))) 1000000 ((0 : Int32), (0 : Int32))).bind (fun x1_3 => some (x1_3))
set_option maxHeartbeats 4000000 in
theorem c_Mo_moneyOfAll {n u : Nat} {t : MT} {i : MI} {r : MR} (s : Sh n t r)  : Cn 3 282 [.ref 1638] (n, u, t, i, r) (f_Mo_moneyOfAll i ) (F_i0 n u t i r) PT := by
  refine cn_of (Y := K_Mo_moneyOfAll) (L0 := [.ref 1638, uV, uV]) rfl rfl rfl ?_
  intro d hd
  unfold f_Mo_moneyOfAll
  refine ge_run (pc' := 4) (L' := [.ref 1638, .int (0 : Int32), .int (0 : Int32)]) (S' := []) 4 rfl ?_
  refine ge_bind (K1 := fun (q : Int32) e => ∃ w_4 : Value, e = .inl (17, [.ref 1638, .int q, w_4], [], (n, u, t, i, r))) (ge_itr (C := fun (q : Int32 × Int32) e => e = .inl (4, [.ref 1638, .int q.1, .int q.2], [], (n, u, t, i, r))) ?_ _ _ _ rfl) ?_
  · rintro ⟨x1_1, x2_2⟩ _ rfl
    try dsimp only
    refine ge_run (pc' := 6) (L' := [.ref 1638, .int x1_1, .int x2_2]) (S' := [.ref 1638, .int x2_2]) 2 rfl ?_
    refine ge_cv rfl rfl rfl (t1638 s) rfl rfl rfl (D := 1) (Nat.le_trans (by decide) hd) (c_Mo_buyers (n := n) (u := u) (t := t) (i := i) (r := r) s ) ?_
    rintro v_5 -
    dsimp only [bkE, F_i0]
    refine ge_ge rfl (fun h_6 => ?_) (fun h_8 => ?_)
    · refine ge_run (pc' := 12) (L' := [.ref 1638, .int x1_1, .int x2_2]) (S' := [.int (1 : Int32), .int x2_2, .ref 1638, .int x1_1]) 4 rfl ?_
      refine ge_cv rfl rfl rfl (t1638 s) rfl rfl rfl (D := 2) (Nat.le_trans (by decide) hd) (c_Mo_ofBuyer (n := n) (u := u) (t := t) (i := i) (r := r) s x2_2 (1 : Int32)) ?_
      rintro v_7 -
      dsimp only [bkE, F_i0]
      refine ge_run (pc' := 4) (L' := [.ref 1638, .int (x1_1 + v_7), .int (x2_2 + (1 : Int32))]) (S' := []) 4 rfl ?_
      exact ge_leaf (K := kX _ _) rfl
    · exact ge_leaf (K := kX _ _) (Exists.intro _ rfl)
  · rintro x1_3 _ ⟨w_4, rfl⟩
    try dsimp only
    refine ge_run (pc' := 18) (L' := [.ref 1638, .int x1_3, w_4]) (S' := [.int x1_3]) 1 rfl ?_
    exact ge_ret rfl rfl (And.intro rfl trivial)
def f_Mo_buyer (i : MI) (x1 : Int32) (x2 : Int32) : Option (Int32 × MI) :=
  bnd (wr i 1638 0 (0 : Int32)) (fun i_1 => (f_Mo_noBuyer i_1 x1).bind (fun v_2 => (f_Mo_throwsIf i_1 v_2 (1 : Int32)).bind (fun (v_3, i_4) => if v_3 = 0 then ((f_Mo_in x2 (0 : Int32) (5 : Int32)).bind (fun v_6 => (if v_6 = 0 then (some (1 : Int32)) else (some (0 : Int32)) : Option (Int32)).bind (fun y_7 => (f_Mo_throwsIf i_4 y_7 (2 : Int32)).bind (fun (v_10, i_11) => if v_10 = 0 then (if x2 < (4 : Int32) then ((f_Mo_ofBuyer i_11 x1 x2).bind (fun v_14 => some (v_14, i_11))) else (if x2 = (4 : Int32) then ((f_Mo_choiceOf i_11 x1).bind (fun (v_17, i_18) => some (v_17, i_18))) else ((f_Mo_moneyOfAll i_11).bind (fun v_20 => if v_20 = 0 then (some ((0 : Int32), i_11)) else ((f_Mo_ofBuyer i_11 x1 (1 : Int32)).bind (fun v_23 => (f_Mo_moneyOfAll i_11).bind (fun v_24 => grd2 (decide (¬ v_24 = 0)) (some ((((100 : Int32) * v_23) / v_24), i_11))))))))) else (some ((0 : Int32), i_11)))))) else (some ((0 : Int32), i_4)))))
set_option maxHeartbeats 4000000 in
theorem c_Mo_buyer {n u : Nat} {t : MT} {i : MI} {r : MR} (s : Sh n t r) (x1 : Int32) (x2 : Int32) : Cn 10 283 [.ref 1638, .int x1, .int x2] (n, u, t, i, r) (f_Mo_buyer i x1 x2) (F_i1 n u t r) PT := by
  refine cn_of (Y := K_Mo_buyer) (L0 := [.ref 1638, .int x1, .int x2]) rfl rfl rfl ?_
  intro d hd
  unfold f_Mo_buyer
  refine ge_run (pc' := 2) (L' := [.ref 1638, .int x1, .int x2]) (S' := [.int (0 : Int32), .ref 1638]) 2 rfl ?_
  refine ge_putI rfl (t1638 s) (Nat.le_of_ble_eq_true rfl) rfl (fun i_1 => ?_)
  refine ge_run (pc' := 6) (L' := [.ref 1638, .int x1, .int x2]) (S' := [.int x1, .ref 1638, .ref 1638]) 3 rfl ?_
  refine ge_cv rfl rfl rfl (t1638 s) rfl rfl rfl (D := 2) (Nat.le_trans (by decide) hd) (c_Mo_noBuyer (n := n) (u := u) (t := t) (i := i_1) (r := r) s x1) ?_
  rintro v_2 -
  dsimp only [bkE, F_i0]
  refine ge_run (pc' := 8) (L' := [.ref 1638, .int x1, .int x2]) (S' := [.int (1 : Int32), .int v_2, .ref 1638]) 1 rfl ?_
  refine ge_cv rfl rfl rfl (t1638 s) rfl rfl rfl (D := 1) (Nat.le_trans (by decide) hd) (c_Mo_throwsIf (n := n) (u := u) (t := t) (i := i_1) (r := r) s v_2 (1 : Int32)) ?_
  rintro ⟨v_3, i_4⟩ -
  dsimp only [bkE, F_i1]
  refine ge_ne0 rfl (fun h_5 => ?_) (fun h_27 => ?_)
  · refine ge_run (pc' := 14) (L' := [.ref 1638, .int x1, .int x2]) (S' := [.int (5 : Int32), .int (0 : Int32), .int x2, .ref 1638]) 4 rfl ?_
    refine ge_cs rfl rfl rfl rfl rfl rfl (D := 1) (Nat.le_trans (by decide) hd) (c_Mo_in (n := n) (u := u) (t := t) (i := i_4) (r := r) s x2 (0 : Int32) (5 : Int32)) ?_
    rintro v_6 -
    dsimp only [bkE, F_i0]
    refine ge_bind (K1 := fun (q : Int32) e => e = .inl (19, [.ref 1638, .int x1, .int x2], [.int q, .ref 1638], (n, u, t, i_4, r))) ?_ ?_
    · refine ge_ne0 rfl (fun h_8 => ?_) (fun h_9 => ?_)
      · refine ge_run (pc' := 19) (L' := [.ref 1638, .int x1, .int x2]) (S' := [.int (1 : Int32), .ref 1638]) 2 rfl ?_
        exact ge_leaf rfl
      · refine ge_run (pc' := 19) (L' := [.ref 1638, .int x1, .int x2]) (S' := [.int (0 : Int32), .ref 1638]) 1 rfl ?_
        exact ge_leaf rfl
    · rintro y_7 _ rfl
      try dsimp only
      refine ge_run (pc' := 20) (L' := [.ref 1638, .int x1, .int x2]) (S' := [.int (2 : Int32), .int y_7, .ref 1638]) 1 rfl ?_
      refine ge_cv rfl rfl rfl (t1638 s) rfl rfl rfl (D := 1) (Nat.le_trans (by decide) hd) (c_Mo_throwsIf (n := n) (u := u) (t := t) (i := i_4) (r := r) s y_7 (2 : Int32)) ?_
      rintro ⟨v_10, i_11⟩ -
      dsimp only [bkE, F_i1]
      refine ge_eq0 rfl (fun h_12 => ?_) (fun h_26 => ?_)
      · refine ge_run (pc' := 26) (L' := [.ref 1638, .int x1, .int x2]) (S' := [.int (4 : Int32), .int x2]) 2 rfl ?_
        refine ge_ge rfl (fun h_13 => ?_) (fun h_15 => ?_)
        · refine ge_run (pc' := 30) (L' := [.ref 1638, .int x1, .int x2]) (S' := [.int x2, .int x1, .ref 1638]) 3 rfl ?_
          refine ge_cv rfl rfl rfl (t1638 s) rfl rfl rfl (D := 2) (Nat.le_trans (by decide) hd) (c_Mo_ofBuyer (n := n) (u := u) (t := t) (i := i_11) (r := r) s x1 x2) ?_
          rintro v_14 -
          dsimp only [bkE, F_i0]
          exact ge_ret rfl rfl (And.intro rfl trivial)
        · refine ge_run (pc' := 34) (L' := [.ref 1638, .int x1, .int x2]) (S' := [.int (4 : Int32), .int x2]) 2 rfl ?_
          refine ge_ne rfl (fun h_16 => ?_) (fun h_19 => ?_)
          · refine ge_run (pc' := 37) (L' := [.ref 1638, .int x1, .int x2]) (S' := [.int x1, .ref 1638]) 2 rfl ?_
            refine ge_cv rfl rfl rfl (t1638 s) rfl rfl rfl (D := 9) (Nat.le_trans (by decide) hd) (c_Mo_choiceOf (n := n) (u := u) (t := t) (i := i_11) (r := r) s x1) ?_
            rintro ⟨v_17, i_18⟩ -
            dsimp only [bkE, F_i1]
            refine ge_run (pc' := 53) (L' := [.ref 1638, .int x1, .int x2]) (S' := [.int v_17]) 1 rfl ?_
            exact ge_ret rfl rfl (And.intro rfl trivial)
          · refine ge_run (pc' := 40) (L' := [.ref 1638, .int x1, .int x2]) (S' := [.ref 1638]) 1 rfl ?_
            refine ge_cv rfl rfl rfl (t1638 s) rfl rfl rfl (D := 3) (Nat.le_trans (by decide) hd) (c_Mo_moneyOfAll (n := n) (u := u) (t := t) (i := i_11) (r := r) s ) ?_
            rintro v_20 -
            dsimp only [bkE, F_i0]
            refine ge_ne0 rfl (fun h_21 => ?_) (fun h_22 => ?_)
            · refine ge_run (pc' := 53) (L' := [.ref 1638, .int x1, .int x2]) (S' := [.int (0 : Int32)]) 2 rfl ?_
              exact ge_ret rfl rfl (And.intro rfl trivial)
            · refine ge_run (pc' := 48) (L' := [.ref 1638, .int x1, .int x2]) (S' := [.int (1 : Int32), .int x1, .ref 1638, .int (100 : Int32)]) 4 rfl ?_
              refine ge_cv rfl rfl rfl (t1638 s) rfl rfl rfl (D := 2) (Nat.le_trans (by decide) hd) (c_Mo_ofBuyer (n := n) (u := u) (t := t) (i := i_11) (r := r) s x1 (1 : Int32)) ?_
              rintro v_23 -
              dsimp only [bkE, F_i0]
              refine ge_run (pc' := 51) (L' := [.ref 1638, .int x1, .int x2]) (S' := [.ref 1638, .int ((100 : Int32) * v_23)]) 2 rfl ?_
              refine ge_cv rfl rfl rfl (t1638 s) rfl rfl rfl (D := 3) (Nat.le_trans (by decide) hd) (c_Mo_moneyOfAll (n := n) (u := u) (t := t) (i := i_11) (r := r) s ) ?_
              rintro v_24 -
              dsimp only [bkE, F_i0]
              refine ge_grd2 (fun h_25 => ?_)
              refine ge_div rfl (of_decide_eq_true h_25) ?_
              exact ge_ret rfl rfl (And.intro rfl trivial)
      · refine ge_run (pc' := 23) (L' := [.ref 1638, .int x1, .int x2]) (S' := [.int (0 : Int32)]) 1 rfl ?_
        exact ge_ret rfl rfl (And.intro rfl trivial)
  · refine ge_run (pc' := 23) (L' := [.ref 1638, .int x1, .int x2]) (S' := [.int (0 : Int32)]) 1 rfl ?_
    exact ge_ret rfl rfl (And.intro rfl trivial)
def f_Mo_dead (i : MI) (x1 : Int32) (x2 : Int32) : Option (Int32 × MI) :=
  bnd (wr i 1638 0 (0 : Int32)) (fun i_1 => (f_Mo_deadOnes i_1).bind (fun v_2 => (f_Mo_in x1 (0 : Int32) (v_2 - (1 : Int32))).bind (fun v_3 => (if v_3 = 0 then (some (1 : Int32)) else (some (0 : Int32)) : Option (Int32)).bind (fun y_4 => (f_Mo_throwsIf i_1 y_4 (1 : Int32)).bind (fun (v_7, i_8) => if v_7 = 0 then ((f_Mo_in x2 (0 : Int32) (1 : Int32)).bind (fun v_10 => (if v_10 = 0 then (some (1 : Int32)) else (some (0 : Int32)) : Option (Int32)).bind (fun y_11 => (f_Mo_throwsIf i_8 y_11 (2 : Int32)).bind (fun (v_14, i_15) => if v_14 = 0 then ((f_Mo_ofDead i_15 x1 x2).bind (fun v_17 => some (v_17, i_15))) else (some ((0 : Int32), i_15)))))) else (some ((0 : Int32), i_8)))))))
set_option maxHeartbeats 4000000 in
theorem c_Mo_dead {n u : Nat} {t : MT} {i : MI} {r : MR} (s : Sh n t r) (x1 : Int32) (x2 : Int32) : Cn 2 284 [.ref 1638, .int x1, .int x2] (n, u, t, i, r) (f_Mo_dead i x1 x2) (F_i1 n u t r) PT := by
  refine cn_of (Y := K_Mo_dead) (L0 := [.ref 1638, .int x1, .int x2]) rfl rfl rfl ?_
  intro d hd
  unfold f_Mo_dead
  refine ge_run (pc' := 2) (L' := [.ref 1638, .int x1, .int x2]) (S' := [.int (0 : Int32), .ref 1638]) 2 rfl ?_
  refine ge_putI rfl (t1638 s) (Nat.le_of_ble_eq_true rfl) rfl (fun i_1 => ?_)
  refine ge_run (pc' := 7) (L' := [.ref 1638, .int x1, .int x2]) (S' := [.ref 1638, .int (0 : Int32), .int x1, .ref 1638]) 4 rfl ?_
  refine ge_cv rfl rfl rfl (t1638 s) rfl rfl rfl (D := 1) (Nat.le_trans (by decide) hd) (c_Mo_deadOnes (n := n) (u := u) (t := t) (i := i_1) (r := r) s ) ?_
  rintro v_2 -
  dsimp only [bkE, F_i0]
  refine ge_run (pc' := 10) (L' := [.ref 1638, .int x1, .int x2]) (S' := [.int (v_2 - (1 : Int32)), .int (0 : Int32), .int x1, .ref 1638]) 2 rfl ?_
  refine ge_cs rfl rfl rfl rfl rfl rfl (D := 1) (Nat.le_trans (by decide) hd) (c_Mo_in (n := n) (u := u) (t := t) (i := i_1) (r := r) s x1 (0 : Int32) (v_2 - (1 : Int32))) ?_
  rintro v_3 -
  dsimp only [bkE, F_i0]
  refine ge_bind (K1 := fun (q : Int32) e => e = .inl (15, [.ref 1638, .int x1, .int x2], [.int q, .ref 1638], (n, u, t, i_1, r))) ?_ ?_
  · refine ge_ne0 rfl (fun h_5 => ?_) (fun h_6 => ?_)
    · refine ge_run (pc' := 15) (L' := [.ref 1638, .int x1, .int x2]) (S' := [.int (1 : Int32), .ref 1638]) 2 rfl ?_
      exact ge_leaf rfl
    · refine ge_run (pc' := 15) (L' := [.ref 1638, .int x1, .int x2]) (S' := [.int (0 : Int32), .ref 1638]) 1 rfl ?_
      exact ge_leaf rfl
  · rintro y_4 _ rfl
    try dsimp only
    refine ge_run (pc' := 16) (L' := [.ref 1638, .int x1, .int x2]) (S' := [.int (1 : Int32), .int y_4, .ref 1638]) 1 rfl ?_
    refine ge_cv rfl rfl rfl (t1638 s) rfl rfl rfl (D := 1) (Nat.le_trans (by decide) hd) (c_Mo_throwsIf (n := n) (u := u) (t := t) (i := i_1) (r := r) s y_4 (1 : Int32)) ?_
    rintro ⟨v_7, i_8⟩ -
    dsimp only [bkE, F_i1]
    refine ge_ne0 rfl (fun h_9 => ?_) (fun h_19 => ?_)
    · refine ge_run (pc' := 22) (L' := [.ref 1638, .int x1, .int x2]) (S' := [.int (1 : Int32), .int (0 : Int32), .int x2, .ref 1638]) 4 rfl ?_
      refine ge_cs rfl rfl rfl rfl rfl rfl (D := 1) (Nat.le_trans (by decide) hd) (c_Mo_in (n := n) (u := u) (t := t) (i := i_8) (r := r) s x2 (0 : Int32) (1 : Int32)) ?_
      rintro v_10 -
      dsimp only [bkE, F_i0]
      refine ge_bind (K1 := fun (q : Int32) e => e = .inl (27, [.ref 1638, .int x1, .int x2], [.int q, .ref 1638], (n, u, t, i_8, r))) ?_ ?_
      · refine ge_ne0 rfl (fun h_12 => ?_) (fun h_13 => ?_)
        · refine ge_run (pc' := 27) (L' := [.ref 1638, .int x1, .int x2]) (S' := [.int (1 : Int32), .ref 1638]) 2 rfl ?_
          exact ge_leaf rfl
        · refine ge_run (pc' := 27) (L' := [.ref 1638, .int x1, .int x2]) (S' := [.int (0 : Int32), .ref 1638]) 1 rfl ?_
          exact ge_leaf rfl
      · rintro y_11 _ rfl
        try dsimp only
        refine ge_run (pc' := 28) (L' := [.ref 1638, .int x1, .int x2]) (S' := [.int (2 : Int32), .int y_11, .ref 1638]) 1 rfl ?_
        refine ge_cv rfl rfl rfl (t1638 s) rfl rfl rfl (D := 1) (Nat.le_trans (by decide) hd) (c_Mo_throwsIf (n := n) (u := u) (t := t) (i := i_8) (r := r) s y_11 (2 : Int32)) ?_
        rintro ⟨v_14, i_15⟩ -
        dsimp only [bkE, F_i1]
        refine ge_eq0 rfl (fun h_16 => ?_) (fun h_18 => ?_)
        · refine ge_run (pc' := 35) (L' := [.ref 1638, .int x1, .int x2]) (S' := [.int x2, .int x1, .ref 1638]) 3 rfl ?_
          refine ge_cv rfl rfl rfl (t1638 s) rfl rfl rfl (D := 1) (Nat.le_trans (by decide) hd) (c_Mo_ofDead (n := n) (u := u) (t := t) (i := i_15) (r := r) s x1 x2) ?_
          rintro v_17 -
          dsimp only [bkE, F_i0]
          exact ge_ret rfl rfl (And.intro rfl trivial)
        · refine ge_run (pc' := 36) (L' := [.ref 1638, .int x1, .int x2]) (S' := [.int (0 : Int32)]) 2 rfl ?_
          exact ge_ret rfl rfl (And.intro rfl trivial)
    · refine ge_run (pc' := 36) (L' := [.ref 1638, .int x1, .int x2]) (S' := [.int (0 : Int32)]) 2 rfl ?_
      exact ge_ret rfl rfl (And.intro rfl trivial)
