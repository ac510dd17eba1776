/-! ===== the law's body: its calls by their shapes (written by wip/gen/mk9505.py) ===== -/
def bz (x : Int32) : Int32 := if x = 0 then 0 else 1
def KT (d : Nat) (M : mM) (Q : oR × aH → Prop) (L0 N U : Nat) (x4 : Int32) : Prop := ∀ N' U' t' i' r' A' w5 w6, N' ≤ N + 7 → U' ≤ U + 600 → CInv N' t' i' r' A' → MInv i' A' → t' 1 = (100, L0) → Ex d M (1721, [.ref 1, .ref 1000, .ref 1638, .ref 1658, .int x4, w5, w6], [], (N', U', t', i', r')) Q
section SHAPES
variable {d p q L0 N U y z : Nat} {M Y Z : mM} {t : MT} {i : MI} {r : MR} {A A' : AS} {P : Int32 × Int32} {v w : Int32} {Q : oR × aH → Prop} {w5 w6 : Value} {L S L' S' : List Value} {tg : List Nat}
theorem ex_p {pc pc' : Nat} {e : mE} {h : aH} (hf : M.1[pc]? = some e) (hp : pS e L S = some (pc', L', S')) (kk : Ex d M (pc', L', S', h) Q) : Ex d M (pc, L, S, h) Q :=
  Ex.step (c' := (pc', L', S', h)) (fun kk => by simp only [stp, hf, hp]) kk
theorem ex_arg {pc c : Nat} {x : Int32} (h0 : M.1[pc]? = some (.aload 0, 0, pc + 1, 0)) (h1 : M.1[pc + 1]? = some (.iload 4, 0, pc + 2, 0)) (h2 : M.1[pc + 2]? = some (.iconst 0, nI c, pc + 3, 0)) (h3 : M.1[pc + 3]? = some (.iadd, 0, pc + 4, 0)) (h4 : M.1[pc + 4]? = some (.iaload, 0, pc + 5, 0)) (ht : t 1 = (100, L0)) (hc : 6 * q + c < L0) (hL : L0 ≤ 3072) (hx : i 1 (6 * q + c) = x)
    (kk : Ex d M (pc + 5, [.ref 1, .ref 1000, .ref 1638, .ref 1658, .int (nI (6 * q)), w5, w6], .int x :: S, (N, U, t, i, r)) Q) : Ex d M (pc, [.ref 1, .ref 1000, .ref 1638, .ref 1658, .int (nI (6 * q)), w5, w6], S, (N, U, t, i, r)) Q := by
  refine ex_p h0 rfl (ex_p h1 rfl (ex_p h2 rfl (ex_p h3 rfl ?_)))
  refine ex_iald (h := (N, U, t, i, r)) (j := 6 * q + c) h4 (by show (t 1).1 = 100; rw [ht]) (nI_add _ _) (by show 6 * q + c < (t 1).2; rw [ht]; exact hc) (by omega) ?_
  show Ex d M (pc + 5, _, .int (i 1 (6 * q + c)) :: S, (N, U, t, i, r)) Q
  rw [hx]; exact kk
theorem ex_bool {pc : Nat} {x : Int32} {h : aH} (h0 : M.1[pc]? = some (.ifCond .eq 0, 0, pc + 1, pc + 3)) (h1 : M.1[pc + 1]? = some (.iconst 0, 1, pc + 2, 0)) (h2 : M.1[pc + 2]? = some (.goto 0, 0, pc + 3, pc + 4)) (h3 : M.1[pc + 3]? = some (.iconst 0, 0, pc + 4, 0)) (kk : Ex d M (pc + 4, L, .int (bz x) :: S, h) Q) : Ex d M (pc, L, .int x :: S, h) Q := by
  unfold bz at kk
  refine ex_eq0 h0 (fun c => ?_) (fun c => ?_)
  · rw [if_pos c] at kk
    exact ex_p h3 rfl kk
  · rw [if_neg c] at kk
    exact ex_p h1 rfl (ex_p h2 rfl kk)
theorem lg_cmp_self (x : Int64) : lg_cmp x x = 0 := by
  unfold lg_cmp
  rw [if_neg (show ¬ x > x from Int64.lt_irrefl), if_pos rfl]
def gsh_D (p z y : Nat) : List mE := [(.aload 1, 0, p + 1, 0), (.invokevirtual z, 0, p + 2, 0), (.aload 2, 0, p + 3, 0), (.invokevirtual y, 0, p + 4, 0), (.if_icmp .eq 0, 0, p + 5, 1721), (.iconst 0, 0, p + 6, 0), (.ireturn, 0, p + 7, 0)]
set_option maxHeartbeats 2000000 in
theorem sh_D (hs : ∀ k e, (gsh_D p z y)[k]? = some e → M.1[p + k]? = some e) (hI : CInv N t i r A) (hM : MInv i A) (ht : t 1 = (100, L0)) (hq : 6 * q + 6 ≤ L0) (hL : L0 ≤ 3072) (hh : M.2.1 = []) (hZ : Pg[z]? = some Z) (hZ9 : Z.2.2.2.2.2 = 11) (hZn : Z.2.2.2.2.1 = 0) (hC : Rn d z [.ref 1000] (N, U, t, i, r) (CRs N U t i (0, v) tg A')) (hY : Pg[y]? = some Y) (hY9 : Y.2.2.2.2.2 = 12) (hYn : Y.2.2.2.2.1 = 0) (hR : ∀ N' U' t' i' r', Sh N' t' r' → SV t' i' → MInv i' A → Rn d y [.ref 1638] (N', U', t', i', r') (MRs N' U' t' i' r' (0, v) A')) (hd : 1 ≤ d) (hk : KT d M Q L0 N U (nI (6 * q))) : Ex d M (p, [.ref 1, .ref 1000, .ref 1638, .ref 1658, .int (nI (6 * q)), w5, w6], [], (N, U, t, i, r)) Q := by
  refine ex_p (hs 0 _ rfl) rfl ?_
  refine ex_callV (a := 1000) (S' := []) (Or.inl (hs 1 _ rfl)) hZ (by rw [hZ9]; decide) (by show (t 1000).1 = _; rw [hZ9, t1000 hI.1]) (by rw [hZn]; rfl) rfl (by rw [hZn]; rfl) hC ?_
  rintro _ ⟨N', U', t', i', r', hI', h1, h2, h3, h4, (⟨c, rfl⟩ | ⟨c, -⟩)⟩
  rotate_left
  · exact absurd rfl c
  dsimp only
  have hM' : MInv i' A := hM.congr (fun b j q1 q2 => h3 b j (Or.inr q1) (by omega))
  have ht' : t' 1 = (100, L0) := h4.trans ht
  refine ex_p (hs 2 _ rfl) rfl ?_
  refine ex_callV (a := 1638) (S' := [.int v]) (Or.inl (hs 3 _ rfl)) hY (by rw [hY9]; decide) (by show (t' 1638).1 = _; rw [hY9, t1638 hI'.1]) (by rw [hYn]; rfl) rfl (by rw [hYn]; rfl) (hR N' U' t' i' r' hI'.1 hI'.2.1 hM') ?_
  rintro _ ⟨vm, i2, rfl, e0, ev, hM2, fr⟩
  dsimp only
  have ex : vm = v := ev rfl
  subst ex
  exact ex_eq (hs 4 _ rfl) (fun _ => hk N' U' t' i2 r' A' _ _ h1 h2 (hI'.mo (fun b j hb => fr b j (by omega))) hM2 ht') (fun h => absurd rfl h)
def gsh_Di (p z y : Nat) : List mE := [(.aload 1, 0, p + 1, 0), (.aload 0, 0, p + 2, 0), (.iload 4, 0, p + 3, 0), (.iconst 0, 1, p + 4, 0), (.iadd, 0, p + 5, 0), (.iaload, 0, p + 6, 0), (.invokevirtual z, 0, p + 7, 0), (.aload 2, 0, p + 8, 0), (.aload 0, 0, p + 9, 0), (.iload 4, 0, p + 10, 0), (.iconst 0, 1, p + 11, 0), (.iadd, 0, p + 12, 0), (.iaload, 0, p + 13, 0), (.invokevirtual y, 0, p + 14, 0), (.if_icmp .eq 0, 0, p + 15, 1721), (.iconst 0, 0, p + 16, 0), (.ireturn, 0, p + 17, 0)]
set_option maxHeartbeats 2000000 in
theorem sh_Di (hs : ∀ k e, (gsh_Di p z y)[k]? = some e → M.1[p + k]? = some e) (hI : CInv N t i r A) (hM : MInv i A) (ht : t 1 = (100, L0)) (hq : 6 * q + 6 ≤ L0) (hL : L0 ≤ 3072) (hh : M.2.1 = []) (hZ : Pg[z]? = some Z) (hZ9 : Z.2.2.2.2.2 = 11) (hZn : Z.2.2.2.2.1 = 1) (hC : Rn d z [.ref 1000, .int (i 1 (6 * q + 1))] (N, U, t, i, r) (CRs N U t i (0, v) tg A')) (hY : Pg[y]? = some Y) (hY9 : Y.2.2.2.2.2 = 12) (hYn : Y.2.2.2.2.1 = 1) (hR : ∀ N' U' t' i' r', Sh N' t' r' → SV t' i' → MInv i' A → Rn d y [.ref 1638, .int (i 1 (6 * q + 1))] (N', U', t', i', r') (MRs N' U' t' i' r' (0, v) A')) (hd : 1 ≤ d) (hk : KT d M Q L0 N U (nI (6 * q))) : Ex d M (p, [.ref 1, .ref 1000, .ref 1638, .ref 1658, .int (nI (6 * q)), w5, w6], [], (N, U, t, i, r)) Q := by
  refine ex_p (hs 0 _ rfl) rfl ?_
  refine ex_arg (c := 1) (hs 1 _ rfl) (hs 2 _ rfl) (hs 3 _ rfl) (hs 4 _ rfl) (hs 5 _ rfl) ht (by omega) hL rfl ?_
  refine ex_callV (a := 1000) (S' := []) (Or.inl (hs 6 _ rfl)) hZ (by rw [hZ9]; decide) (by show (t 1000).1 = _; rw [hZ9, t1000 hI.1]) (by rw [hZn]; rfl) rfl (by rw [hZn]; rfl) hC ?_
  rintro _ ⟨N', U', t', i', r', hI', h1, h2, h3, h4, (⟨c, rfl⟩ | ⟨c, -⟩)⟩
  rotate_left
  · exact absurd rfl c
  dsimp only
  have hM' : MInv i' A := hM.congr (fun b j q1 q2 => h3 b j (Or.inr q1) (by omega))
  have ht' : t' 1 = (100, L0) := h4.trans ht
  refine ex_p (hs 7 _ rfl) rfl ?_
  refine ex_arg (c := 1) (hs 8 _ rfl) (hs 9 _ rfl) (hs 10 _ rfl) (hs 11 _ rfl) (hs 12 _ rfl) ht' (by omega) hL (h3 _ _ (Or.inl (by omega)) (by omega)) ?_
  refine ex_callV (a := 1638) (S' := [.int v]) (Or.inl (hs 13 _ rfl)) hY (by rw [hY9]; decide) (by show (t' 1638).1 = _; rw [hY9, t1638 hI'.1]) (by rw [hYn]; rfl) rfl (by rw [hYn]; rfl) (hR N' U' t' i' r' hI'.1 hI'.2.1 hM') ?_
  rintro _ ⟨vm, i2, rfl, e0, ev, hM2, fr⟩
  dsimp only
  have ex : vm = v := ev rfl
  subst ex
  exact ex_eq (hs 14 _ rfl) (fun _ => hk N' U' t' i2 r' A' _ _ h1 h2 (hI'.mo (fun b j hb => fr b j (by omega))) hM2 ht') (fun h => absurd rfl h)
def gsh_Diiiii (p z y : Nat) : List mE := [(.aload 1, 0, p + 1, 0), (.aload 0, 0, p + 2, 0), (.iload 4, 0, p + 3, 0), (.iconst 0, 1, p + 4, 0), (.iadd, 0, p + 5, 0), (.iaload, 0, p + 6, 0), (.aload 0, 0, p + 7, 0), (.iload 4, 0, p + 8, 0), (.iconst 0, 2, p + 9, 0), (.iadd, 0, p + 10, 0), (.iaload, 0, p + 11, 0), (.aload 0, 0, p + 12, 0), (.iload 4, 0, p + 13, 0), (.iconst 0, 3, p + 14, 0), (.iadd, 0, p + 15, 0), (.iaload, 0, p + 16, 0), (.aload 0, 0, p + 17, 0), (.iload 4, 0, p + 18, 0), (.iconst 0, 4, p + 19, 0), (.iadd, 0, p + 20, 0), (.iaload, 0, p + 21, 0), (.aload 0, 0, p + 22, 0), (.iload 4, 0, p + 23, 0), (.iconst 0, 5, p + 24, 0), (.iadd, 0, p + 25, 0), (.iaload, 0, p + 26, 0), (.invokevirtual z, 0, p + 27, 0), (.aload 2, 0, p + 28, 0), (.aload 0, 0, p + 29, 0), (.iload 4, 0, p + 30, 0), (.iconst 0, 1, p + 31, 0), (.iadd, 0, p + 32, 0), (.iaload, 0, p + 33, 0), (.aload 0, 0, p + 34, 0), (.iload 4, 0, p + 35, 0), (.iconst 0, 2, p + 36, 0), (.iadd, 0, p + 37, 0), (.iaload, 0, p + 38, 0), (.aload 0, 0, p + 39, 0), (.iload 4, 0, p + 40, 0), (.iconst 0, 3, p + 41, 0), (.iadd, 0, p + 42, 0), (.iaload, 0, p + 43, 0), (.aload 0, 0, p + 44, 0), (.iload 4, 0, p + 45, 0), (.iconst 0, 4, p + 46, 0), (.iadd, 0, p + 47, 0), (.iaload, 0, p + 48, 0), (.aload 0, 0, p + 49, 0), (.iload 4, 0, p + 50, 0), (.iconst 0, 5, p + 51, 0), (.iadd, 0, p + 52, 0), (.iaload, 0, p + 53, 0), (.invokevirtual y, 0, p + 54, 0), (.if_icmp .eq 0, 0, p + 55, 1721), (.iconst 0, 0, p + 56, 0), (.ireturn, 0, p + 57, 0)]
set_option maxHeartbeats 2000000 in
theorem sh_Diiiii (hs : ∀ k e, (gsh_Diiiii p z y)[k]? = some e → M.1[p + k]? = some e) (hI : CInv N t i r A) (hM : MInv i A) (ht : t 1 = (100, L0)) (hq : 6 * q + 6 ≤ L0) (hL : L0 ≤ 3072) (hh : M.2.1 = []) (hZ : Pg[z]? = some Z) (hZ9 : Z.2.2.2.2.2 = 11) (hZn : Z.2.2.2.2.1 = 5) (hC : Rn d z [.ref 1000, .int (i 1 (6 * q + 1)), .int (i 1 (6 * q + 2)), .int (i 1 (6 * q + 3)), .int (i 1 (6 * q + 4)), .int (i 1 (6 * q + 5))] (N, U, t, i, r) (CRs N U t i (0, v) tg A')) (hY : Pg[y]? = some Y) (hY9 : Y.2.2.2.2.2 = 12) (hYn : Y.2.2.2.2.1 = 5) (hR : ∀ N' U' t' i' r', Sh N' t' r' → SV t' i' → MInv i' A → Rn d y [.ref 1638, .int (i 1 (6 * q + 1)), .int (i 1 (6 * q + 2)), .int (i 1 (6 * q + 3)), .int (i 1 (6 * q + 4)), .int (i 1 (6 * q + 5))] (N', U', t', i', r') (MRs N' U' t' i' r' (0, v) A')) (hd : 1 ≤ d) (hk : KT d M Q L0 N U (nI (6 * q))) : Ex d M (p, [.ref 1, .ref 1000, .ref 1638, .ref 1658, .int (nI (6 * q)), w5, w6], [], (N, U, t, i, r)) Q := by
  refine ex_p (hs 0 _ rfl) rfl ?_
  refine ex_arg (c := 1) (hs 1 _ rfl) (hs 2 _ rfl) (hs 3 _ rfl) (hs 4 _ rfl) (hs 5 _ rfl) ht (by omega) hL rfl ?_
  refine ex_arg (c := 2) (hs 6 _ rfl) (hs 7 _ rfl) (hs 8 _ rfl) (hs 9 _ rfl) (hs 10 _ rfl) ht (by omega) hL rfl ?_
  refine ex_arg (c := 3) (hs 11 _ rfl) (hs 12 _ rfl) (hs 13 _ rfl) (hs 14 _ rfl) (hs 15 _ rfl) ht (by omega) hL rfl ?_
  refine ex_arg (c := 4) (hs 16 _ rfl) (hs 17 _ rfl) (hs 18 _ rfl) (hs 19 _ rfl) (hs 20 _ rfl) ht (by omega) hL rfl ?_
  refine ex_arg (c := 5) (hs 21 _ rfl) (hs 22 _ rfl) (hs 23 _ rfl) (hs 24 _ rfl) (hs 25 _ rfl) ht (by omega) hL rfl ?_
  refine ex_callV (a := 1000) (S' := []) (Or.inl (hs 26 _ rfl)) hZ (by rw [hZ9]; decide) (by show (t 1000).1 = _; rw [hZ9, t1000 hI.1]) (by rw [hZn]; rfl) rfl (by rw [hZn]; rfl) hC ?_
  rintro _ ⟨N', U', t', i', r', hI', h1, h2, h3, h4, (⟨c, rfl⟩ | ⟨c, -⟩)⟩
  rotate_left
  · exact absurd rfl c
  dsimp only
  have hM' : MInv i' A := hM.congr (fun b j q1 q2 => h3 b j (Or.inr q1) (by omega))
  have ht' : t' 1 = (100, L0) := h4.trans ht
  refine ex_p (hs 27 _ rfl) rfl ?_
  refine ex_arg (c := 1) (hs 28 _ rfl) (hs 29 _ rfl) (hs 30 _ rfl) (hs 31 _ rfl) (hs 32 _ rfl) ht' (by omega) hL (h3 _ _ (Or.inl (by omega)) (by omega)) ?_
  refine ex_arg (c := 2) (hs 33 _ rfl) (hs 34 _ rfl) (hs 35 _ rfl) (hs 36 _ rfl) (hs 37 _ rfl) ht' (by omega) hL (h3 _ _ (Or.inl (by omega)) (by omega)) ?_
  refine ex_arg (c := 3) (hs 38 _ rfl) (hs 39 _ rfl) (hs 40 _ rfl) (hs 41 _ rfl) (hs 42 _ rfl) ht' (by omega) hL (h3 _ _ (Or.inl (by omega)) (by omega)) ?_
  refine ex_arg (c := 4) (hs 43 _ rfl) (hs 44 _ rfl) (hs 45 _ rfl) (hs 46 _ rfl) (hs 47 _ rfl) ht' (by omega) hL (h3 _ _ (Or.inl (by omega)) (by omega)) ?_
  refine ex_arg (c := 5) (hs 48 _ rfl) (hs 49 _ rfl) (hs 50 _ rfl) (hs 51 _ rfl) (hs 52 _ rfl) ht' (by omega) hL (h3 _ _ (Or.inl (by omega)) (by omega)) ?_
  refine ex_callV (a := 1638) (S' := [.int v]) (Or.inl (hs 53 _ rfl)) hY (by rw [hY9]; decide) (by show (t' 1638).1 = _; rw [hY9, t1638 hI'.1]) (by rw [hYn]; rfl) rfl (by rw [hYn]; rfl) (hR N' U' t' i' r' hI'.1 hI'.2.1 hM') ?_
  rintro _ ⟨vm, i2, rfl, e0, ev, hM2, fr⟩
  dsimp only
  have ex : vm = v := ev rfl
  subst ex
  exact ex_eq (hs 54 _ rfl) (fun _ => hk N' U' t' i2 r' A' _ _ h1 h2 (hI'.mo (fun b j hb => fr b j (by omega))) hM2 ht') (fun h => absurd rfl h)
def gsh_H (p z y : Nat) : List mE := [(.aload 1, 0, p + 1, 0), (.aload 3, 0, p + 2, 0), (.invokestatic z, 0, p + 3, 0), (.istore 5, 0, p + 4, 0), (.aload 2, 0, p + 5, 0), (.invokevirtual y, 0, p + 6, 0), (.istore 6, 0, p + 7, 0), (.aload 2, 0, p + 8, 0), (.invokevirtual 191, 0, p + 9, 0), (.iload 5, 0, p + 10, 0), (.if_icmp .eq 0, 0, p + 11, p + 13), (.iconst 0, 0, p + 12, 0), (.ireturn, 0, p + 13, 0), (.iload 5, 0, p + 14, 0), (.ifCond .ne 0, 0, p + 15, p + 24), (.aload 3, 0, p + 16, 0), (.iconst 0, 0, p + 17, 0), (.laload, 0, p + 18, 0), (.iload 6, 0, p + 19, 0), (.i2l, 0, p + 20, 0), (.lcmp, 0, p + 21, 0), (.ifCond .eq 0, 0, p + 22, p + 24), (.iconst 0, 0, p + 23, 0), (.ireturn, 0, p + 24, 0), (.goto 0, 0, p + 25, 1721)]
set_option maxHeartbeats 2000000 in
theorem sh_H (hs : ∀ k e, (gsh_H p z y)[k]? = some e → M.1[p + k]? = some e) (hI : CInv N t i r A) (hM : MInv i A) (ht : t 1 = (100, L0)) (hq : 6 * q + 6 ≤ L0) (hL : L0 ≤ 3072) (hh : M.2.1 = []) (hZ : Pg[z]? = some Z) (hZ9 : Z.2.2.2.2.2 = 99) (hZn : Z.2.2.2.2.1 = 2) (hC : Rn d z [.ref 1000, .ref 1658] (N, U, t, i, r) (HRs N U t i P A')) (hY : Pg[y]? = some Y) (hY9 : Y.2.2.2.2.2 = 12) (hYn : Y.2.2.2.2.1 = 0) (hR : ∀ N' U' t' i' r', Sh N' t' r' → SV t' i' → MInv i' A → Rn d y [.ref 1638] (N', U', t', i', r') (MRs N' U' t' i' r' P A')) (hd : 1 ≤ d) (hk : KT d M Q L0 N U (nI (6 * q))) : Ex d M (p, [.ref 1, .ref 1000, .ref 1638, .ref 1658, .int (nI (6 * q)), w5, w6], [], (N, U, t, i, r)) Q := by
  refine ex_p (hs 0 _ rfl) rfl ?_
  refine ex_p (hs 1 _ rfl) rfl ?_
  refine ex_callS (S' := []) (hs 2 _ rfl) hZ hZ9 (by rw [hZn]; exact Nat.le_refl _) (by rw [hZn]; rfl) rfl (by rw [hZn]; rfl) hC ?_
  rintro _ ⟨N', U', t', i', r', hI', h1, h2, h3, h4, h5, rfl⟩
  dsimp only
  have hM' : MInv i' A := hM.congr (fun b j q1 q2 => h3 b j (Or.inr q1) q2)
  have ht' : t' 1 = (100, L0) := h4.trans ht
  refine ex_p (hs 3 _ rfl) rfl ?_
  refine ex_p (hs 4 _ rfl) rfl ?_
  refine ex_callV (a := 1638) (S' := []) (Or.inl (hs 5 _ rfl)) hY (by rw [hY9]; decide) (by show (t' 1638).1 = _; rw [hY9, t1638 hI'.1]) (by rw [hYn]; rfl) rfl (by rw [hYn]; rfl) (hR N' U' t' i' r' hI'.1 hI'.2.1 hM') ?_
  rintro _ ⟨vm, i2, rfl, e0, ev, hM2, fr⟩
  dsimp only
  refine ex_p (hs 6 _ rfl) rfl ?_
  refine ex_p (hs 7 _ rfl) rfl ?_
  have hth : f_Mo_thrown i2 = some P.1 := by rw [← e0]; rfl
  refine ex_cv (a := 1638) (S' := []) (hs 8 _ rfl) rfl (by decide) (by show (t' 1638).1 = 12; rw [t1638 hI'.1]) rfl rfl rfl (c_Mo_thrown hI'.1 d hd _ hth).2 ?_
  refine ex_p (hs 9 _ rfl) rfl ?_
  refine ex_eq (hs 10 _ rfl) (fun _ => ?_) (fun h => absurd rfl h)
  refine ex_p (hs 13 _ rfl) rfl ?_
  have fin : Ex d M (p + 24, [.ref 1, .ref 1000, .ref 1638, .ref 1658, .int (nI (6 * q)), .int P.1, .int vm], [], (N', U', t', i2, r')) Q := ex_p (hs 24 _ rfl) rfl (hk N' U' t' i2 r' A' _ _ h1 h2 (hI'.mo (fun b j hb => fr b j (by omega))) hM2 ht')
  refine ex_ne0 (hs 14 _ rfl) (fun c => ?_) (fun _ => fin)
  refine ex_p (hs 15 _ rfl) rfl (ex_p (hs 16 _ rfl) rfl ?_)
  refine ex_lald (h := (N', U', t', i2, r')) (j := 0) (hs 17 _ rfl) (by show (t' 1658).1 = 103; rw [t1658 hI'.1]) rfl (by show 0 < (t' 1658).2; rw [t1658 hI'.1]; exact Nat.one_pos) (by decide) ?_
  have ex : i2 1658 0 = vm := by rw [fr _ _ (Or.inr (Nat.le_refl _)), h5 c, ev c]
  show Ex d M (p + 18, _, [.long (i2 1658 0).toInt64], (N', U', t', i2, r')) Q
  rw [ex]
  refine ex_p (hs 18 _ rfl) rfl (ex_p (hs 19 _ rfl) rfl (ex_p (hs 20 _ rfl) rfl ?_))
  rw [lg_cmp_self]
  exact ex_eq0 (hs 21 _ rfl) (fun _ => fin) (fun h => absurd rfl h)
def gsh_Hb (p z y : Nat) : List mE := [(.aload 1, 0, p + 1, 0), (.aload 0, 0, p + 2, 0), (.iload 4, 0, p + 3, 0), (.iconst 0, 1, p + 4, 0), (.iadd, 0, p + 5, 0), (.iaload, 0, p + 6, 0), (.ifCond .eq 0, 0, p + 7, p + 9), (.iconst 0, 1, p + 8, 0), (.goto 0, 0, p + 9, p + 10), (.iconst 0, 0, p + 10, 0), (.aload 3, 0, p + 11, 0), (.invokestatic z, 0, p + 12, 0), (.istore 5, 0, p + 13, 0), (.aload 2, 0, p + 14, 0), (.aload 0, 0, p + 15, 0), (.iload 4, 0, p + 16, 0), (.iconst 0, 1, p + 17, 0), (.iadd, 0, p + 18, 0), (.iaload, 0, p + 19, 0), (.ifCond .eq 0, 0, p + 20, p + 22), (.iconst 0, 1, p + 21, 0), (.goto 0, 0, p + 22, p + 23), (.iconst 0, 0, p + 23, 0), (.invokevirtual y, 0, p + 24, 0), (.istore 6, 0, p + 25, 0), (.aload 2, 0, p + 26, 0), (.invokevirtual 191, 0, p + 27, 0), (.iload 5, 0, p + 28, 0), (.if_icmp .eq 0, 0, p + 29, p + 31), (.iconst 0, 0, p + 30, 0), (.ireturn, 0, p + 31, 0), (.iload 5, 0, p + 32, 0), (.ifCond .ne 0, 0, p + 33, p + 42), (.aload 3, 0, p + 34, 0), (.iconst 0, 0, p + 35, 0), (.laload, 0, p + 36, 0), (.iload 6, 0, p + 37, 0), (.i2l, 0, p + 38, 0), (.lcmp, 0, p + 39, 0), (.ifCond .eq 0, 0, p + 40, p + 42), (.iconst 0, 0, p + 41, 0), (.ireturn, 0, p + 42, 0), (.goto 0, 0, p + 43, 1721)]
set_option maxHeartbeats 2000000 in
theorem sh_Hb (hs : ∀ k e, (gsh_Hb p z y)[k]? = some e → M.1[p + k]? = some e) (hI : CInv N t i r A) (hM : MInv i A) (ht : t 1 = (100, L0)) (hq : 6 * q + 6 ≤ L0) (hL : L0 ≤ 3072) (hh : M.2.1 = []) (hZ : Pg[z]? = some Z) (hZ9 : Z.2.2.2.2.2 = 99) (hZn : Z.2.2.2.2.1 = 3) (hC : Rn d z [.ref 1000, .int (bz (i 1 (6 * q + 1))), .ref 1658] (N, U, t, i, r) (HRs N U t i P A')) (hY : Pg[y]? = some Y) (hY9 : Y.2.2.2.2.2 = 12) (hYn : Y.2.2.2.2.1 = 1) (hR : ∀ N' U' t' i' r', Sh N' t' r' → SV t' i' → MInv i' A → Rn d y [.ref 1638, .int (bz (i 1 (6 * q + 1)))] (N', U', t', i', r') (MRs N' U' t' i' r' P A')) (hd : 1 ≤ d) (hk : KT d M Q L0 N U (nI (6 * q))) : Ex d M (p, [.ref 1, .ref 1000, .ref 1638, .ref 1658, .int (nI (6 * q)), w5, w6], [], (N, U, t, i, r)) Q := by
  refine ex_p (hs 0 _ rfl) rfl ?_
  refine ex_arg (c := 1) (hs 1 _ rfl) (hs 2 _ rfl) (hs 3 _ rfl) (hs 4 _ rfl) (hs 5 _ rfl) ht (by omega) hL rfl ?_
  refine ex_bool (hs 6 _ rfl) (hs 7 _ rfl) (hs 8 _ rfl) (hs 9 _ rfl) ?_
  refine ex_p (hs 10 _ rfl) rfl ?_
  refine ex_callS (S' := []) (hs 11 _ rfl) hZ hZ9 (by rw [hZn]; exact Nat.le_refl _) (by rw [hZn]; rfl) rfl (by rw [hZn]; rfl) hC ?_
  rintro _ ⟨N', U', t', i', r', hI', h1, h2, h3, h4, h5, rfl⟩
  dsimp only
  have hM' : MInv i' A := hM.congr (fun b j q1 q2 => h3 b j (Or.inr q1) q2)
  have ht' : t' 1 = (100, L0) := h4.trans ht
  refine ex_p (hs 12 _ rfl) rfl ?_
  refine ex_p (hs 13 _ rfl) rfl ?_
  refine ex_arg (c := 1) (hs 14 _ rfl) (hs 15 _ rfl) (hs 16 _ rfl) (hs 17 _ rfl) (hs 18 _ rfl) ht' (by omega) hL (h3 _ _ (Or.inl (by omega)) (by omega)) ?_
  refine ex_bool (hs 19 _ rfl) (hs 20 _ rfl) (hs 21 _ rfl) (hs 22 _ rfl) ?_
  refine ex_callV (a := 1638) (S' := []) (Or.inl (hs 23 _ rfl)) hY (by rw [hY9]; decide) (by show (t' 1638).1 = _; rw [hY9, t1638 hI'.1]) (by rw [hYn]; rfl) rfl (by rw [hYn]; rfl) (hR N' U' t' i' r' hI'.1 hI'.2.1 hM') ?_
  rintro _ ⟨vm, i2, rfl, e0, ev, hM2, fr⟩
  dsimp only
  refine ex_p (hs 24 _ rfl) rfl ?_
  refine ex_p (hs 25 _ rfl) rfl ?_
  have hth : f_Mo_thrown i2 = some P.1 := by rw [← e0]; rfl
  refine ex_cv (a := 1638) (S' := []) (hs 26 _ rfl) rfl (by decide) (by show (t' 1638).1 = 12; rw [t1638 hI'.1]) rfl rfl rfl (c_Mo_thrown hI'.1 d hd _ hth).2 ?_
  refine ex_p (hs 27 _ rfl) rfl ?_
  refine ex_eq (hs 28 _ rfl) (fun _ => ?_) (fun h => absurd rfl h)
  refine ex_p (hs 31 _ rfl) rfl ?_
  have fin : Ex d M (p + 42, [.ref 1, .ref 1000, .ref 1638, .ref 1658, .int (nI (6 * q)), .int P.1, .int vm], [], (N', U', t', i2, r')) Q := ex_p (hs 42 _ rfl) rfl (hk N' U' t' i2 r' A' _ _ h1 h2 (hI'.mo (fun b j hb => fr b j (by omega))) hM2 ht')
  refine ex_ne0 (hs 32 _ rfl) (fun c => ?_) (fun _ => fin)
  refine ex_p (hs 33 _ rfl) rfl (ex_p (hs 34 _ rfl) rfl ?_)
  refine ex_lald (h := (N', U', t', i2, r')) (j := 0) (hs 35 _ rfl) (by show (t' 1658).1 = 103; rw [t1658 hI'.1]) rfl (by show 0 < (t' 1658).2; rw [t1658 hI'.1]; exact Nat.one_pos) (by decide) ?_
  have ex : i2 1658 0 = vm := by rw [fr _ _ (Or.inr (Nat.le_refl _)), h5 c, ev c]
  show Ex d M (p + 36, _, [.long (i2 1658 0).toInt64], (N', U', t', i2, r')) Q
  rw [ex]
  refine ex_p (hs 36 _ rfl) rfl (ex_p (hs 37 _ rfl) rfl (ex_p (hs 38 _ rfl) rfl ?_))
  rw [lg_cmp_self]
  exact ex_eq0 (hs 39 _ rfl) (fun _ => fin) (fun h => absurd rfl h)
def gsh_Hi (p z y : Nat) : List mE := [(.aload 1, 0, p + 1, 0), (.aload 0, 0, p + 2, 0), (.iload 4, 0, p + 3, 0), (.iconst 0, 1, p + 4, 0), (.iadd, 0, p + 5, 0), (.iaload, 0, p + 6, 0), (.aload 3, 0, p + 7, 0), (.invokestatic z, 0, p + 8, 0), (.istore 5, 0, p + 9, 0), (.aload 2, 0, p + 10, 0), (.aload 0, 0, p + 11, 0), (.iload 4, 0, p + 12, 0), (.iconst 0, 1, p + 13, 0), (.iadd, 0, p + 14, 0), (.iaload, 0, p + 15, 0), (.invokevirtual y, 0, p + 16, 0), (.istore 6, 0, p + 17, 0), (.aload 2, 0, p + 18, 0), (.invokevirtual 191, 0, p + 19, 0), (.iload 5, 0, p + 20, 0), (.if_icmp .eq 0, 0, p + 21, p + 23), (.iconst 0, 0, p + 22, 0), (.ireturn, 0, p + 23, 0), (.iload 5, 0, p + 24, 0), (.ifCond .ne 0, 0, p + 25, p + 34), (.aload 3, 0, p + 26, 0), (.iconst 0, 0, p + 27, 0), (.laload, 0, p + 28, 0), (.iload 6, 0, p + 29, 0), (.i2l, 0, p + 30, 0), (.lcmp, 0, p + 31, 0), (.ifCond .eq 0, 0, p + 32, p + 34), (.iconst 0, 0, p + 33, 0), (.ireturn, 0, p + 34, 0), (.goto 0, 0, p + 35, 1721)]
set_option maxHeartbeats 2000000 in
theorem sh_Hi (hs : ∀ k e, (gsh_Hi p z y)[k]? = some e → M.1[p + k]? = some e) (hI : CInv N t i r A) (hM : MInv i A) (ht : t 1 = (100, L0)) (hq : 6 * q + 6 ≤ L0) (hL : L0 ≤ 3072) (hh : M.2.1 = []) (hZ : Pg[z]? = some Z) (hZ9 : Z.2.2.2.2.2 = 99) (hZn : Z.2.2.2.2.1 = 3) (hC : Rn d z [.ref 1000, .int (i 1 (6 * q + 1)), .ref 1658] (N, U, t, i, r) (HRs N U t i P A')) (hY : Pg[y]? = some Y) (hY9 : Y.2.2.2.2.2 = 12) (hYn : Y.2.2.2.2.1 = 1) (hR : ∀ N' U' t' i' r', Sh N' t' r' → SV t' i' → MInv i' A → Rn d y [.ref 1638, .int (i 1 (6 * q + 1))] (N', U', t', i', r') (MRs N' U' t' i' r' P A')) (hd : 1 ≤ d) (hk : KT d M Q L0 N U (nI (6 * q))) : Ex d M (p, [.ref 1, .ref 1000, .ref 1638, .ref 1658, .int (nI (6 * q)), w5, w6], [], (N, U, t, i, r)) Q := by
  refine ex_p (hs 0 _ rfl) rfl ?_
  refine ex_arg (c := 1) (hs 1 _ rfl) (hs 2 _ rfl) (hs 3 _ rfl) (hs 4 _ rfl) (hs 5 _ rfl) ht (by omega) hL rfl ?_
  refine ex_p (hs 6 _ rfl) rfl ?_
  refine ex_callS (S' := []) (hs 7 _ rfl) hZ hZ9 (by rw [hZn]; exact Nat.le_refl _) (by rw [hZn]; rfl) rfl (by rw [hZn]; rfl) hC ?_
  rintro _ ⟨N', U', t', i', r', hI', h1, h2, h3, h4, h5, rfl⟩
  dsimp only
  have hM' : MInv i' A := hM.congr (fun b j q1 q2 => h3 b j (Or.inr q1) q2)
  have ht' : t' 1 = (100, L0) := h4.trans ht
  refine ex_p (hs 8 _ rfl) rfl ?_
  refine ex_p (hs 9 _ rfl) rfl ?_
  refine ex_arg (c := 1) (hs 10 _ rfl) (hs 11 _ rfl) (hs 12 _ rfl) (hs 13 _ rfl) (hs 14 _ rfl) ht' (by omega) hL (h3 _ _ (Or.inl (by omega)) (by omega)) ?_
  refine ex_callV (a := 1638) (S' := []) (Or.inl (hs 15 _ rfl)) hY (by rw [hY9]; decide) (by show (t' 1638).1 = _; rw [hY9, t1638 hI'.1]) (by rw [hYn]; rfl) rfl (by rw [hYn]; rfl) (hR N' U' t' i' r' hI'.1 hI'.2.1 hM') ?_
  rintro _ ⟨vm, i2, rfl, e0, ev, hM2, fr⟩
  dsimp only
  refine ex_p (hs 16 _ rfl) rfl ?_
  refine ex_p (hs 17 _ rfl) rfl ?_
  have hth : f_Mo_thrown i2 = some P.1 := by rw [← e0]; rfl
  refine ex_cv (a := 1638) (S' := []) (hs 18 _ rfl) rfl (by decide) (by show (t' 1638).1 = 12; rw [t1638 hI'.1]) rfl rfl rfl (c_Mo_thrown hI'.1 d hd _ hth).2 ?_
  refine ex_p (hs 19 _ rfl) rfl ?_
  refine ex_eq (hs 20 _ rfl) (fun _ => ?_) (fun h => absurd rfl h)
  refine ex_p (hs 23 _ rfl) rfl ?_
  have fin : Ex d M (p + 34, [.ref 1, .ref 1000, .ref 1638, .ref 1658, .int (nI (6 * q)), .int P.1, .int vm], [], (N', U', t', i2, r')) Q := ex_p (hs 34 _ rfl) rfl (hk N' U' t' i2 r' A' _ _ h1 h2 (hI'.mo (fun b j hb => fr b j (by omega))) hM2 ht')
  refine ex_ne0 (hs 24 _ rfl) (fun c => ?_) (fun _ => fin)
  refine ex_p (hs 25 _ rfl) rfl (ex_p (hs 26 _ rfl) rfl ?_)
  refine ex_lald (h := (N', U', t', i2, r')) (j := 0) (hs 27 _ rfl) (by show (t' 1658).1 = 103; rw [t1658 hI'.1]) rfl (by show 0 < (t' 1658).2; rw [t1658 hI'.1]; exact Nat.one_pos) (by decide) ?_
  have ex : i2 1658 0 = vm := by rw [fr _ _ (Or.inr (Nat.le_refl _)), h5 c, ev c]
  show Ex d M (p + 28, _, [.long (i2 1658 0).toInt64], (N', U', t', i2, r')) Q
  rw [ex]
  refine ex_p (hs 28 _ rfl) rfl (ex_p (hs 29 _ rfl) rfl (ex_p (hs 30 _ rfl) rfl ?_))
  rw [lg_cmp_self]
  exact ex_eq0 (hs 31 _ rfl) (fun _ => fin) (fun h => absurd rfl h)
def gsh_Hib (p z y : Nat) : List mE := [(.aload 1, 0, p + 1, 0), (.aload 0, 0, p + 2, 0), (.iload 4, 0, p + 3, 0), (.iconst 0, 1, p + 4, 0), (.iadd, 0, p + 5, 0), (.iaload, 0, p + 6, 0), (.aload 0, 0, p + 7, 0), (.iload 4, 0, p + 8, 0), (.iconst 0, 2, p + 9, 0), (.iadd, 0, p + 10, 0), (.iaload, 0, p + 11, 0), (.ifCond .eq 0, 0, p + 12, p + 14), (.iconst 0, 1, p + 13, 0), (.goto 0, 0, p + 14, p + 15), (.iconst 0, 0, p + 15, 0), (.aload 3, 0, p + 16, 0), (.invokestatic z, 0, p + 17, 0), (.istore 5, 0, p + 18, 0), (.aload 2, 0, p + 19, 0), (.aload 0, 0, p + 20, 0), (.iload 4, 0, p + 21, 0), (.iconst 0, 1, p + 22, 0), (.iadd, 0, p + 23, 0), (.iaload, 0, p + 24, 0), (.aload 0, 0, p + 25, 0), (.iload 4, 0, p + 26, 0), (.iconst 0, 2, p + 27, 0), (.iadd, 0, p + 28, 0), (.iaload, 0, p + 29, 0), (.ifCond .eq 0, 0, p + 30, p + 32), (.iconst 0, 1, p + 31, 0), (.goto 0, 0, p + 32, p + 33), (.iconst 0, 0, p + 33, 0), (.invokevirtual y, 0, p + 34, 0), (.istore 6, 0, p + 35, 0), (.aload 2, 0, p + 36, 0), (.invokevirtual 191, 0, p + 37, 0), (.iload 5, 0, p + 38, 0), (.if_icmp .eq 0, 0, p + 39, p + 41), (.iconst 0, 0, p + 40, 0), (.ireturn, 0, p + 41, 0), (.iload 5, 0, p + 42, 0), (.ifCond .ne 0, 0, p + 43, p + 52), (.aload 3, 0, p + 44, 0), (.iconst 0, 0, p + 45, 0), (.laload, 0, p + 46, 0), (.iload 6, 0, p + 47, 0), (.i2l, 0, p + 48, 0), (.lcmp, 0, p + 49, 0), (.ifCond .eq 0, 0, p + 50, p + 52), (.iconst 0, 0, p + 51, 0), (.ireturn, 0, p + 52, 0), (.goto 0, 0, p + 53, 1721)]
set_option maxHeartbeats 2000000 in
theorem sh_Hib (hs : ∀ k e, (gsh_Hib p z y)[k]? = some e → M.1[p + k]? = some e) (hI : CInv N t i r A) (hM : MInv i A) (ht : t 1 = (100, L0)) (hq : 6 * q + 6 ≤ L0) (hL : L0 ≤ 3072) (hh : M.2.1 = []) (hZ : Pg[z]? = some Z) (hZ9 : Z.2.2.2.2.2 = 99) (hZn : Z.2.2.2.2.1 = 4) (hC : Rn d z [.ref 1000, .int (i 1 (6 * q + 1)), .int (bz (i 1 (6 * q + 2))), .ref 1658] (N, U, t, i, r) (HRs N U t i P A')) (hY : Pg[y]? = some Y) (hY9 : Y.2.2.2.2.2 = 12) (hYn : Y.2.2.2.2.1 = 2) (hR : ∀ N' U' t' i' r', Sh N' t' r' → SV t' i' → MInv i' A → Rn d y [.ref 1638, .int (i 1 (6 * q + 1)), .int (bz (i 1 (6 * q + 2)))] (N', U', t', i', r') (MRs N' U' t' i' r' P A')) (hd : 1 ≤ d) (hk : KT d M Q L0 N U (nI (6 * q))) : Ex d M (p, [.ref 1, .ref 1000, .ref 1638, .ref 1658, .int (nI (6 * q)), w5, w6], [], (N, U, t, i, r)) Q := by
  refine ex_p (hs 0 _ rfl) rfl ?_
  refine ex_arg (c := 1) (hs 1 _ rfl) (hs 2 _ rfl) (hs 3 _ rfl) (hs 4 _ rfl) (hs 5 _ rfl) ht (by omega) hL rfl ?_
  refine ex_arg (c := 2) (hs 6 _ rfl) (hs 7 _ rfl) (hs 8 _ rfl) (hs 9 _ rfl) (hs 10 _ rfl) ht (by omega) hL rfl ?_
  refine ex_bool (hs 11 _ rfl) (hs 12 _ rfl) (hs 13 _ rfl) (hs 14 _ rfl) ?_
  refine ex_p (hs 15 _ rfl) rfl ?_
  refine ex_callS (S' := []) (hs 16 _ rfl) hZ hZ9 (by rw [hZn]; exact Nat.le_refl _) (by rw [hZn]; rfl) rfl (by rw [hZn]; rfl) hC ?_
  rintro _ ⟨N', U', t', i', r', hI', h1, h2, h3, h4, h5, rfl⟩
  dsimp only
  have hM' : MInv i' A := hM.congr (fun b j q1 q2 => h3 b j (Or.inr q1) q2)
  have ht' : t' 1 = (100, L0) := h4.trans ht
  refine ex_p (hs 17 _ rfl) rfl ?_
  refine ex_p (hs 18 _ rfl) rfl ?_
  refine ex_arg (c := 1) (hs 19 _ rfl) (hs 20 _ rfl) (hs 21 _ rfl) (hs 22 _ rfl) (hs 23 _ rfl) ht' (by omega) hL (h3 _ _ (Or.inl (by omega)) (by omega)) ?_
  refine ex_arg (c := 2) (hs 24 _ rfl) (hs 25 _ rfl) (hs 26 _ rfl) (hs 27 _ rfl) (hs 28 _ rfl) ht' (by omega) hL (h3 _ _ (Or.inl (by omega)) (by omega)) ?_
  refine ex_bool (hs 29 _ rfl) (hs 30 _ rfl) (hs 31 _ rfl) (hs 32 _ rfl) ?_
  refine ex_callV (a := 1638) (S' := []) (Or.inl (hs 33 _ rfl)) hY (by rw [hY9]; decide) (by show (t' 1638).1 = _; rw [hY9, t1638 hI'.1]) (by rw [hYn]; rfl) rfl (by rw [hYn]; rfl) (hR N' U' t' i' r' hI'.1 hI'.2.1 hM') ?_
  rintro _ ⟨vm, i2, rfl, e0, ev, hM2, fr⟩
  dsimp only
  refine ex_p (hs 34 _ rfl) rfl ?_
  refine ex_p (hs 35 _ rfl) rfl ?_
  have hth : f_Mo_thrown i2 = some P.1 := by rw [← e0]; rfl
  refine ex_cv (a := 1638) (S' := []) (hs 36 _ rfl) rfl (by decide) (by show (t' 1638).1 = 12; rw [t1638 hI'.1]) rfl rfl rfl (c_Mo_thrown hI'.1 d hd _ hth).2 ?_
  refine ex_p (hs 37 _ rfl) rfl ?_
  refine ex_eq (hs 38 _ rfl) (fun _ => ?_) (fun h => absurd rfl h)
  refine ex_p (hs 41 _ rfl) rfl ?_
  have fin : Ex d M (p + 52, [.ref 1, .ref 1000, .ref 1638, .ref 1658, .int (nI (6 * q)), .int P.1, .int vm], [], (N', U', t', i2, r')) Q := ex_p (hs 52 _ rfl) rfl (hk N' U' t' i2 r' A' _ _ h1 h2 (hI'.mo (fun b j hb => fr b j (by omega))) hM2 ht')
  refine ex_ne0 (hs 42 _ rfl) (fun c => ?_) (fun _ => fin)
  refine ex_p (hs 43 _ rfl) rfl (ex_p (hs 44 _ rfl) rfl ?_)
  refine ex_lald (h := (N', U', t', i2, r')) (j := 0) (hs 45 _ rfl) (by show (t' 1658).1 = 103; rw [t1658 hI'.1]) rfl (by show 0 < (t' 1658).2; rw [t1658 hI'.1]; exact Nat.one_pos) (by decide) ?_
  have ex : i2 1658 0 = vm := by rw [fr _ _ (Or.inr (Nat.le_refl _)), h5 c, ev c]
  show Ex d M (p + 46, _, [.long (i2 1658 0).toInt64], (N', U', t', i2, r')) Q
  rw [ex]
  refine ex_p (hs 46 _ rfl) rfl (ex_p (hs 47 _ rfl) rfl (ex_p (hs 48 _ rfl) rfl ?_))
  rw [lg_cmp_self]
  exact ex_eq0 (hs 49 _ rfl) (fun _ => fin) (fun h => absurd rfl h)
def gsh_Hii (p z y : Nat) : List mE := [(.aload 1, 0, p + 1, 0), (.aload 0, 0, p + 2, 0), (.iload 4, 0, p + 3, 0), (.iconst 0, 1, p + 4, 0), (.iadd, 0, p + 5, 0), (.iaload, 0, p + 6, 0), (.aload 0, 0, p + 7, 0), (.iload 4, 0, p + 8, 0), (.iconst 0, 2, p + 9, 0), (.iadd, 0, p + 10, 0), (.iaload, 0, p + 11, 0), (.aload 3, 0, p + 12, 0), (.invokestatic z, 0, p + 13, 0), (.istore 5, 0, p + 14, 0), (.aload 2, 0, p + 15, 0), (.aload 0, 0, p + 16, 0), (.iload 4, 0, p + 17, 0), (.iconst 0, 1, p + 18, 0), (.iadd, 0, p + 19, 0), (.iaload, 0, p + 20, 0), (.aload 0, 0, p + 21, 0), (.iload 4, 0, p + 22, 0), (.iconst 0, 2, p + 23, 0), (.iadd, 0, p + 24, 0), (.iaload, 0, p + 25, 0), (.invokevirtual y, 0, p + 26, 0), (.istore 6, 0, p + 27, 0), (.aload 2, 0, p + 28, 0), (.invokevirtual 191, 0, p + 29, 0), (.iload 5, 0, p + 30, 0), (.if_icmp .eq 0, 0, p + 31, p + 33), (.iconst 0, 0, p + 32, 0), (.ireturn, 0, p + 33, 0), (.iload 5, 0, p + 34, 0), (.ifCond .ne 0, 0, p + 35, p + 44), (.aload 3, 0, p + 36, 0), (.iconst 0, 0, p + 37, 0), (.laload, 0, p + 38, 0), (.iload 6, 0, p + 39, 0), (.i2l, 0, p + 40, 0), (.lcmp, 0, p + 41, 0), (.ifCond .eq 0, 0, p + 42, p + 44), (.iconst 0, 0, p + 43, 0), (.ireturn, 0, p + 44, 0), (.goto 0, 0, p + 45, 1721)]
set_option maxHeartbeats 2000000 in
theorem sh_Hii (hs : ∀ k e, (gsh_Hii p z y)[k]? = some e → M.1[p + k]? = some e) (hI : CInv N t i r A) (hM : MInv i A) (ht : t 1 = (100, L0)) (hq : 6 * q + 6 ≤ L0) (hL : L0 ≤ 3072) (hh : M.2.1 = []) (hZ : Pg[z]? = some Z) (hZ9 : Z.2.2.2.2.2 = 99) (hZn : Z.2.2.2.2.1 = 4) (hC : Rn d z [.ref 1000, .int (i 1 (6 * q + 1)), .int (i 1 (6 * q + 2)), .ref 1658] (N, U, t, i, r) (HRs N U t i P A')) (hY : Pg[y]? = some Y) (hY9 : Y.2.2.2.2.2 = 12) (hYn : Y.2.2.2.2.1 = 2) (hR : ∀ N' U' t' i' r', Sh N' t' r' → SV t' i' → MInv i' A → Rn d y [.ref 1638, .int (i 1 (6 * q + 1)), .int (i 1 (6 * q + 2))] (N', U', t', i', r') (MRs N' U' t' i' r' P A')) (hd : 1 ≤ d) (hk : KT d M Q L0 N U (nI (6 * q))) : Ex d M (p, [.ref 1, .ref 1000, .ref 1638, .ref 1658, .int (nI (6 * q)), w5, w6], [], (N, U, t, i, r)) Q := by
  refine ex_p (hs 0 _ rfl) rfl ?_
  refine ex_arg (c := 1) (hs 1 _ rfl) (hs 2 _ rfl) (hs 3 _ rfl) (hs 4 _ rfl) (hs 5 _ rfl) ht (by omega) hL rfl ?_
  refine ex_arg (c := 2) (hs 6 _ rfl) (hs 7 _ rfl) (hs 8 _ rfl) (hs 9 _ rfl) (hs 10 _ rfl) ht (by omega) hL rfl ?_
  refine ex_p (hs 11 _ rfl) rfl ?_
  refine ex_callS (S' := []) (hs 12 _ rfl) hZ hZ9 (by rw [hZn]; exact Nat.le_refl _) (by rw [hZn]; rfl) rfl (by rw [hZn]; rfl) hC ?_
  rintro _ ⟨N', U', t', i', r', hI', h1, h2, h3, h4, h5, rfl⟩
  dsimp only
  have hM' : MInv i' A := hM.congr (fun b j q1 q2 => h3 b j (Or.inr q1) q2)
  have ht' : t' 1 = (100, L0) := h4.trans ht
  refine ex_p (hs 13 _ rfl) rfl ?_
  refine ex_p (hs 14 _ rfl) rfl ?_
  refine ex_arg (c := 1) (hs 15 _ rfl) (hs 16 _ rfl) (hs 17 _ rfl) (hs 18 _ rfl) (hs 19 _ rfl) ht' (by omega) hL (h3 _ _ (Or.inl (by omega)) (by omega)) ?_
  refine ex_arg (c := 2) (hs 20 _ rfl) (hs 21 _ rfl) (hs 22 _ rfl) (hs 23 _ rfl) (hs 24 _ rfl) ht' (by omega) hL (h3 _ _ (Or.inl (by omega)) (by omega)) ?_
  refine ex_callV (a := 1638) (S' := []) (Or.inl (hs 25 _ rfl)) hY (by rw [hY9]; decide) (by show (t' 1638).1 = _; rw [hY9, t1638 hI'.1]) (by rw [hYn]; rfl) rfl (by rw [hYn]; rfl) (hR N' U' t' i' r' hI'.1 hI'.2.1 hM') ?_
  rintro _ ⟨vm, i2, rfl, e0, ev, hM2, fr⟩
  dsimp only
  refine ex_p (hs 26 _ rfl) rfl ?_
  refine ex_p (hs 27 _ rfl) rfl ?_
  have hth : f_Mo_thrown i2 = some P.1 := by rw [← e0]; rfl
  refine ex_cv (a := 1638) (S' := []) (hs 28 _ rfl) rfl (by decide) (by show (t' 1638).1 = 12; rw [t1638 hI'.1]) rfl rfl rfl (c_Mo_thrown hI'.1 d hd _ hth).2 ?_
  refine ex_p (hs 29 _ rfl) rfl ?_
  refine ex_eq (hs 30 _ rfl) (fun _ => ?_) (fun h => absurd rfl h)
  refine ex_p (hs 33 _ rfl) rfl ?_
  have fin : Ex d M (p + 44, [.ref 1, .ref 1000, .ref 1638, .ref 1658, .int (nI (6 * q)), .int P.1, .int vm], [], (N', U', t', i2, r')) Q := ex_p (hs 44 _ rfl) rfl (hk N' U' t' i2 r' A' _ _ h1 h2 (hI'.mo (fun b j hb => fr b j (by omega))) hM2 ht')
  refine ex_ne0 (hs 34 _ rfl) (fun c => ?_) (fun _ => fin)
  refine ex_p (hs 35 _ rfl) rfl (ex_p (hs 36 _ rfl) rfl ?_)
  refine ex_lald (h := (N', U', t', i2, r')) (j := 0) (hs 37 _ rfl) (by show (t' 1658).1 = 103; rw [t1658 hI'.1]) rfl (by show 0 < (t' 1658).2; rw [t1658 hI'.1]; exact Nat.one_pos) (by decide) ?_
  have ex : i2 1658 0 = vm := by rw [fr _ _ (Or.inr (Nat.le_refl _)), h5 c, ev c]
  show Ex d M (p + 38, _, [.long (i2 1658 0).toInt64], (N', U', t', i2, r')) Q
  rw [ex]
  refine ex_p (hs 38 _ rfl) rfl (ex_p (hs 39 _ rfl) rfl (ex_p (hs 40 _ rfl) rfl ?_))
  rw [lg_cmp_self]
  exact ex_eq0 (hs 41 _ rfl) (fun _ => fin) (fun h => absurd rfl h)
def gsh_Hiii (p z y : Nat) : List mE := [(.aload 1, 0, p + 1, 0), (.aload 0, 0, p + 2, 0), (.iload 4, 0, p + 3, 0), (.iconst 0, 1, p + 4, 0), (.iadd, 0, p + 5, 0), (.iaload, 0, p + 6, 0), (.aload 0, 0, p + 7, 0), (.iload 4, 0, p + 8, 0), (.iconst 0, 2, p + 9, 0), (.iadd, 0, p + 10, 0), (.iaload, 0, p + 11, 0), (.aload 0, 0, p + 12, 0), (.iload 4, 0, p + 13, 0), (.iconst 0, 3, p + 14, 0), (.iadd, 0, p + 15, 0), (.iaload, 0, p + 16, 0), (.aload 3, 0, p + 17, 0), (.invokestatic z, 0, p + 18, 0), (.istore 5, 0, p + 19, 0), (.aload 2, 0, p + 20, 0), (.aload 0, 0, p + 21, 0), (.iload 4, 0, p + 22, 0), (.iconst 0, 1, p + 23, 0), (.iadd, 0, p + 24, 0), (.iaload, 0, p + 25, 0), (.aload 0, 0, p + 26, 0), (.iload 4, 0, p + 27, 0), (.iconst 0, 2, p + 28, 0), (.iadd, 0, p + 29, 0), (.iaload, 0, p + 30, 0), (.aload 0, 0, p + 31, 0), (.iload 4, 0, p + 32, 0), (.iconst 0, 3, p + 33, 0), (.iadd, 0, p + 34, 0), (.iaload, 0, p + 35, 0), (.invokevirtual y, 0, p + 36, 0), (.istore 6, 0, p + 37, 0), (.aload 2, 0, p + 38, 0), (.invokevirtual 191, 0, p + 39, 0), (.iload 5, 0, p + 40, 0), (.if_icmp .eq 0, 0, p + 41, p + 43), (.iconst 0, 0, p + 42, 0), (.ireturn, 0, p + 43, 0), (.iload 5, 0, p + 44, 0), (.ifCond .ne 0, 0, p + 45, p + 54), (.aload 3, 0, p + 46, 0), (.iconst 0, 0, p + 47, 0), (.laload, 0, p + 48, 0), (.iload 6, 0, p + 49, 0), (.i2l, 0, p + 50, 0), (.lcmp, 0, p + 51, 0), (.ifCond .eq 0, 0, p + 52, p + 54), (.iconst 0, 0, p + 53, 0), (.ireturn, 0, p + 54, 0), (.goto 0, 0, p + 55, 1721)]
set_option maxHeartbeats 2000000 in
theorem sh_Hiii (hs : ∀ k e, (gsh_Hiii p z y)[k]? = some e → M.1[p + k]? = some e) (hI : CInv N t i r A) (hM : MInv i A) (ht : t 1 = (100, L0)) (hq : 6 * q + 6 ≤ L0) (hL : L0 ≤ 3072) (hh : M.2.1 = []) (hZ : Pg[z]? = some Z) (hZ9 : Z.2.2.2.2.2 = 99) (hZn : Z.2.2.2.2.1 = 5) (hC : Rn d z [.ref 1000, .int (i 1 (6 * q + 1)), .int (i 1 (6 * q + 2)), .int (i 1 (6 * q + 3)), .ref 1658] (N, U, t, i, r) (HRs N U t i P A')) (hY : Pg[y]? = some Y) (hY9 : Y.2.2.2.2.2 = 12) (hYn : Y.2.2.2.2.1 = 3) (hR : ∀ N' U' t' i' r', Sh N' t' r' → SV t' i' → MInv i' A → Rn d y [.ref 1638, .int (i 1 (6 * q + 1)), .int (i 1 (6 * q + 2)), .int (i 1 (6 * q + 3))] (N', U', t', i', r') (MRs N' U' t' i' r' P A')) (hd : 1 ≤ d) (hk : KT d M Q L0 N U (nI (6 * q))) : Ex d M (p, [.ref 1, .ref 1000, .ref 1638, .ref 1658, .int (nI (6 * q)), w5, w6], [], (N, U, t, i, r)) Q := by
  refine ex_p (hs 0 _ rfl) rfl ?_
  refine ex_arg (c := 1) (hs 1 _ rfl) (hs 2 _ rfl) (hs 3 _ rfl) (hs 4 _ rfl) (hs 5 _ rfl) ht (by omega) hL rfl ?_
  refine ex_arg (c := 2) (hs 6 _ rfl) (hs 7 _ rfl) (hs 8 _ rfl) (hs 9 _ rfl) (hs 10 _ rfl) ht (by omega) hL rfl ?_
  refine ex_arg (c := 3) (hs 11 _ rfl) (hs 12 _ rfl) (hs 13 _ rfl) (hs 14 _ rfl) (hs 15 _ rfl) ht (by omega) hL rfl ?_
  refine ex_p (hs 16 _ rfl) rfl ?_
  refine ex_callS (S' := []) (hs 17 _ rfl) hZ hZ9 (by rw [hZn]; exact Nat.le_refl _) (by rw [hZn]; rfl) rfl (by rw [hZn]; rfl) hC ?_
  rintro _ ⟨N', U', t', i', r', hI', h1, h2, h3, h4, h5, rfl⟩
  dsimp only
  have hM' : MInv i' A := hM.congr (fun b j q1 q2 => h3 b j (Or.inr q1) q2)
  have ht' : t' 1 = (100, L0) := h4.trans ht
  refine ex_p (hs 18 _ rfl) rfl ?_
  refine ex_p (hs 19 _ rfl) rfl ?_
  refine ex_arg (c := 1) (hs 20 _ rfl) (hs 21 _ rfl) (hs 22 _ rfl) (hs 23 _ rfl) (hs 24 _ rfl) ht' (by omega) hL (h3 _ _ (Or.inl (by omega)) (by omega)) ?_
  refine ex_arg (c := 2) (hs 25 _ rfl) (hs 26 _ rfl) (hs 27 _ rfl) (hs 28 _ rfl) (hs 29 _ rfl) ht' (by omega) hL (h3 _ _ (Or.inl (by omega)) (by omega)) ?_
  refine ex_arg (c := 3) (hs 30 _ rfl) (hs 31 _ rfl) (hs 32 _ rfl) (hs 33 _ rfl) (hs 34 _ rfl) ht' (by omega) hL (h3 _ _ (Or.inl (by omega)) (by omega)) ?_
  refine ex_callV (a := 1638) (S' := []) (Or.inl (hs 35 _ rfl)) hY (by rw [hY9]; decide) (by show (t' 1638).1 = _; rw [hY9, t1638 hI'.1]) (by rw [hYn]; rfl) rfl (by rw [hYn]; rfl) (hR N' U' t' i' r' hI'.1 hI'.2.1 hM') ?_
  rintro _ ⟨vm, i2, rfl, e0, ev, hM2, fr⟩
  dsimp only
  refine ex_p (hs 36 _ rfl) rfl ?_
  refine ex_p (hs 37 _ rfl) rfl ?_
  have hth : f_Mo_thrown i2 = some P.1 := by rw [← e0]; rfl
  refine ex_cv (a := 1638) (S' := []) (hs 38 _ rfl) rfl (by decide) (by show (t' 1638).1 = 12; rw [t1638 hI'.1]) rfl rfl rfl (c_Mo_thrown hI'.1 d hd _ hth).2 ?_
  refine ex_p (hs 39 _ rfl) rfl ?_
  refine ex_eq (hs 40 _ rfl) (fun _ => ?_) (fun h => absurd rfl h)
  refine ex_p (hs 43 _ rfl) rfl ?_
  have fin : Ex d M (p + 54, [.ref 1, .ref 1000, .ref 1638, .ref 1658, .int (nI (6 * q)), .int P.1, .int vm], [], (N', U', t', i2, r')) Q := ex_p (hs 54 _ rfl) rfl (hk N' U' t' i2 r' A' _ _ h1 h2 (hI'.mo (fun b j hb => fr b j (by omega))) hM2 ht')
  refine ex_ne0 (hs 44 _ rfl) (fun c => ?_) (fun _ => fin)
  refine ex_p (hs 45 _ rfl) rfl (ex_p (hs 46 _ rfl) rfl ?_)
  refine ex_lald (h := (N', U', t', i2, r')) (j := 0) (hs 47 _ rfl) (by show (t' 1658).1 = 103; rw [t1658 hI'.1]) rfl (by show 0 < (t' 1658).2; rw [t1658 hI'.1]; exact Nat.one_pos) (by decide) ?_
  have ex : i2 1658 0 = vm := by rw [fr _ _ (Or.inr (Nat.le_refl _)), h5 c, ev c]
  show Ex d M (p + 48, _, [.long (i2 1658 0).toInt64], (N', U', t', i2, r')) Q
  rw [ex]
  refine ex_p (hs 48 _ rfl) rfl (ex_p (hs 49 _ rfl) rfl (ex_p (hs 50 _ rfl) rfl ?_))
  rw [lg_cmp_self]
  exact ex_eq0 (hs 51 _ rfl) (fun _ => fin) (fun h => absurd rfl h)
def gsh_V (p z y : Nat) : List mE := [(.aload 1, 0, p + 1, 0), (.invokevirtual z, 0, p + 2, 0), (.aload 2, 0, p + 3, 0), (.invokevirtual y, 0, p + 4, 0), (.goto 0, 0, p + 5, 1721)]
set_option maxHeartbeats 2000000 in
theorem sh_V (hs : ∀ k e, (gsh_V p z y)[k]? = some e → M.1[p + k]? = some e) (hI : CInv N t i r A) (hM : MInv i A) (ht : t 1 = (100, L0)) (hq : 6 * q + 6 ≤ L0) (hL : L0 ≤ 3072) (hh : M.2.1 = []) (hZ : Pg[z]? = some Z) (hZ9 : Z.2.2.2.2.2 = 11) (hZn : Z.2.2.2.2.1 = 0) (hC : Rn d z [.ref 1000] (N, U, t, i, r) (fun q => ∃ i' r', q = (.inl none, (N, U, t, i', r')) ∧ CInv N t i' r' A' ∧ frO i i')) (hY : Pg[y]? = some Y) (hY9 : Y.2.2.2.2.2 = 12) (hYn : Y.2.2.2.2.1 = 0) (hR : ∀ N' U' t' i' r', Sh N' t' r' → SV t' i' → MInv i' A → Rn d y [.ref 1638] (N', U', t', i', r') (fun q => ∃ i'', q = (.inl none, (N', U', t', i'', r')) ∧ MInv i'' A' ∧ frM i' i'')) (hd : 1 ≤ d) (hk : KT d M Q L0 N U (nI (6 * q))) : Ex d M (p, [.ref 1, .ref 1000, .ref 1638, .ref 1658, .int (nI (6 * q)), w5, w6], [], (N, U, t, i, r)) Q := by
  refine ex_p (hs 0 _ rfl) rfl ?_
  refine ex_callV (a := 1000) (S' := []) (Or.inl (hs 1 _ rfl)) hZ (by rw [hZ9]; decide) (by show (t 1000).1 = _; rw [hZ9, t1000 hI.1]) (by rw [hZn]; rfl) rfl (by rw [hZn]; rfl) hC ?_
  rintro _ ⟨i', r', rfl, hI', h3⟩
  dsimp only
  have hM' : MInv i' A := hM.congr (fun b j q1 q2 => h3 b j (Or.inr q1) (by omega))
  refine ex_p (hs 2 _ rfl) rfl ?_
  refine ex_callV (a := 1638) (S' := []) (Or.inl (hs 3 _ rfl)) hY (by rw [hY9]; decide) (by show (t 1638).1 = _; rw [hY9, t1638 hI'.1]) (by rw [hYn]; rfl) rfl (by rw [hYn]; rfl) (hR N U t i' r' hI'.1 hI'.2.1 hM') ?_
  rintro _ ⟨i2, rfl, hM2, fr⟩
  dsimp only
  exact ex_p (hs 4 _ rfl) rfl (hk N U t i2 r' A' _ _ (by omega) (by omega) (hI'.mo (fun b j hb => fr b j (by omega))) hM2 ht)
end SHAPES
