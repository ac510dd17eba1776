/-! ===== the law's helpers (written by wip/gen/mk9504.py) ===== -/
/-- a helper ended: its code, the world, the answer's cell -/
def HRs (N U : Nat) (t : MT) (i : MI) (p : Int32 × Int32) (A : AS) (q : oR × aH) : Prop := ∃ N' U' t' i' r', CInv N' t' i' r' A ∧ N' ≤ N + 7 ∧ U' ≤ U + 600 ∧ (∀ b j, (b < 1000 ∨ 1638 ≤ b) → b < 1658 → i' b j = i b j) ∧ t' 1 = t 1 ∧ (p.1 = 0 → i' 1658 0 = p.2) ∧ q = (.inl (some (.int p.1)), (N', U', t', i', r'))
section HELP
variable {N U d N' U' : Nat} {t t' : MT} {i i' : MI} {r r' : MR} {A : AS} {p : Int32 × Int32}
theorem ex_last {pc nx tg a jn len : Nat} {M : mM} {cst i0 : Int32} {L S : List Value} {Q : oR × aH → Prop} {z : Int64} (hf : M.1[pc]? = some (.lastore, cst, nx, tg)) (ht : t a = (103, len)) (h1 : 1000 ≤ a) (hi : i0 = nI jn) (hl : jn < len) (hb : jn < 2 ^ 31) (hz : z.toInt32.toInt64 = z) (kk : Ex d M (nx, L, S, (N, U, t, wr i a jn z.toInt32, r)) Q) : Ex d M (pc, L, .long z :: .int i0 :: .ref a :: S, (N, U, t, i, r)) Q := by
  subst hi
  refine Ex.step (c' := (nx, L, S, (N, U, t, wr i a jn z.toInt32, r))) (fun kk => ?_) kk
  simp only [stp, hf, pS, sS]
  rw [if_pos ⟨by show (t a).1 = 103; rw [ht], h1, nI_pos hb, by rw [nI_clamp hb]; show jn < (t a).2; rw [ht]; exact hl, hz⟩, nI_clamp hb]
  rfl
theorem hrs_0 (hI : CInv N' t' i' r' A) (h1 : N' ≤ N + 7) (h2 : U' ≤ U + 600) (h3 : frO i i') (h4 : t' 1 = t 1) (c : p.1 = 0) : HRs N U t i p A (.inl (some (.int 0)), (N', U', t', wr i' 1658 0 p.2.toInt64.toInt32, r')) :=
  ⟨N', U', t', _, r', hI.mo (fun b j hb => wr_a (by omega)), h1, h2, fun b j q1 q2 => (wr_a (by omega)).trans (h3 b j q1 (by omega)), h4, fun _ => wr_s.trans (Int32.toInt32_toInt64 _), by rw [c]⟩
theorem hrs_1 {v : Int32} (hI : CInv N' t' i' r' A) (h1 : N' ≤ N + 7) (h2 : U' ≤ U + 600) (h3 : frO i i') (h4 : t' 1 = t 1) (hp : p.1 = v) (c : ¬ p.1 = 0) : HRs N U t i p A (.inl (some (.int v)), (N', U', t', i', r')) :=
  ⟨N', U', t', i', r', hI, h1, h2, fun b j q1 q2 => h3 b j q1 (by omega), h4, fun q => absurd q c, by rw [hp]⟩

set_option maxHeartbeats 1000000 in
theorem h_waters (s : Sh N t r) (hC : Rn d 123 [.ref 1000] (N, U, t, i, r) (CRs N U t i p [20, 23] A)) (hp : p.1 = 0 ∨ p.1 = 1 ∨ p.1 = 2) : Rn (d + 1) 371 [.ref 1000, .ref 1658] (N, U, t, i, r) (HRs N U t i p A) := by
  refine Rn.of (M := K_Ws_waters) (L := [.ref 1000, .ref 1658, uV]) rfl (by show (2 : Nat) ≤ 3; omega) rfl rfl ?_
  refine Ex.run 3 (pc' := 3) (L' := [.ref 1000, .ref 1658, uV]) (S' := [.ref 1000, .int 0, .ref 1658]) rfl ?_
  refine ex_callV (Or.inl rfl) rfl (by show (11 : Nat) < 14; omega) (by show (t 1000).1 = 11; rw [t1000 s]) rfl rfl rfl hC ?_
  rintro q ⟨N', U', t', i', r', hI, h1, h2, h3, h4, (⟨c, rfl⟩ | ⟨c, e, rfl, ht⟩)⟩
  · dsimp only
    refine Ex.run 1 (pc' := 5) (L' := [.ref 1000, .ref 1658, uV]) (S' := [.long p.2.toInt64, .int 0, .ref 1658]) rfl ?_
    refine ex_last (jn := 0) rfl (t1658 hI.1) (by omega) rfl (by omega) (by omega) (by rw [Int32.toInt32_toInt64]) ?_
    refine Ex.run 2 (pc' := 14) (L' := [.ref 1000, .ref 1658, uV]) (S' := [.int 0]) rfl ?_
    exact ex_ret rfl (Or.inl rfl) (hrs_0 hI h1 h2 h3 h4 c)
  · dsimp only
    rcases hp with hp | hp | hp
    · exact absurd hp c
    · have hh : hnd K_Ws_waters.2.1 3 20 = some 7 := by decide
      rw [show aT (N', U', t', i', r') e = 20 by show (t' e).1 = 20; rw [ht, hp]; rfl, hh]
      refine ⟨2, _, _, _, rfl, ?_⟩
      refine Ex.run 1 (pc' := 9) (L' := [.ref 1000, .ref 1658, uV]) (S' := [.int 1]) rfl ?_
      exact ex_ret rfl (Or.inl rfl) (hrs_1 hI h1 h2 h3 h4 hp c)
    · have hh : hnd K_Ws_waters.2.1 3 23 = some 10 := by decide
      rw [show aT (N', U', t', i', r') e = 23 by show (t' e).1 = 23; rw [ht, hp]; rfl, hh]
      refine ⟨2, _, _, _, rfl, ?_⟩
      refine Ex.run 1 (pc' := 12) (L' := [.ref 1000, .ref 1658, uV]) (S' := [.int 2]) rfl ?_
      exact ex_ret rfl (Or.inl rfl) (hrs_1 hI h1 h2 h3 h4 hp c)
set_option maxHeartbeats 1000000 in
theorem h_law (s : Sh N t r) (hC : Rn d 124 [.ref 1000] (N, U, t, i, r) (CRs N U t i p [20] A)) (hp : p.1 = 0 ∨ p.1 = 1) : Rn (d + 1) 372 [.ref 1000, .ref 1658] (N, U, t, i, r) (HRs N U t i p A) := by
  refine Rn.of (M := K_Ws_law) (L := [.ref 1000, .ref 1658, uV]) rfl (by show (2 : Nat) ≤ 3; omega) rfl rfl ?_
  refine Ex.run 3 (pc' := 3) (L' := [.ref 1000, .ref 1658, uV]) (S' := [.ref 1000, .int 0, .ref 1658]) rfl ?_
  refine ex_callV (Or.inl rfl) rfl (by show (11 : Nat) < 14; omega) (by show (t 1000).1 = 11; rw [t1000 s]) rfl rfl rfl hC ?_
  rintro q ⟨N', U', t', i', r', hI, h1, h2, h3, h4, (⟨c, rfl⟩ | ⟨c, e, rfl, ht⟩)⟩
  · dsimp only
    refine Ex.run 1 (pc' := 5) (L' := [.ref 1000, .ref 1658, uV]) (S' := [.long p.2.toInt64, .int 0, .ref 1658]) rfl ?_
    refine ex_last (jn := 0) rfl (t1658 hI.1) (by omega) rfl (by omega) (by omega) (by rw [Int32.toInt32_toInt64]) ?_
    refine Ex.run 2 (pc' := 11) (L' := [.ref 1000, .ref 1658, uV]) (S' := [.int 0]) rfl ?_
    exact ex_ret rfl (Or.inl rfl) (hrs_0 hI h1 h2 h3 h4 c)
  · dsimp only
    rcases hp with hp | hp
    · exact absurd hp c
    · have hh : hnd K_Ws_law.2.1 3 20 = some 7 := by decide
      rw [show aT (N', U', t', i', r') e = 20 by show (t' e).1 = 20; rw [ht, hp]; rfl, hh]
      refine ⟨2, _, _, _, rfl, ?_⟩
      refine Ex.run 1 (pc' := 9) (L' := [.ref 1000, .ref 1658, uV]) (S' := [.int 1]) rfl ?_
      exact ex_ret rfl (Or.inl rfl) (hrs_1 hI h1 h2 h3 h4 hp c)
set_option maxHeartbeats 1000000 in
theorem h_cell {x w : Int32} (s : Sh N t r) (hC : Rn d 126 [.ref 1000, .int x, .int w] (N, U, t, i, r) (CRs N U t i p [22, 24] A)) (hp : p.1 = 0 ∨ p.1 = 1 ∨ p.1 = 2) : Rn (d + 1) 373 [.ref 1000, .int x, .int w, .ref 1658] (N, U, t, i, r) (HRs N U t i p A) := by
  refine Rn.of (M := K_Ws_cell) (L := [.ref 1000, .int x, .int w, .ref 1658, uV]) rfl (by show (4 : Nat) ≤ 5; omega) rfl rfl ?_
  refine Ex.run 5 (pc' := 5) (L' := [.ref 1000, .int x, .int w, .ref 1658, uV]) (S' := [.int w, .int x, .ref 1000, .int 0, .ref 1658]) rfl ?_
  refine ex_callV (Or.inl rfl) rfl (by show (11 : Nat) < 14; omega) (by show (t 1000).1 = 11; rw [t1000 s]) rfl rfl rfl hC ?_
  rintro q ⟨N', U', t', i', r', hI, h1, h2, h3, h4, (⟨c, rfl⟩ | ⟨c, e, rfl, ht⟩)⟩
  · dsimp only
    refine Ex.run 1 (pc' := 7) (L' := [.ref 1000, .int x, .int w, .ref 1658, uV]) (S' := [.long p.2.toInt64, .int 0, .ref 1658]) rfl ?_
    refine ex_last (jn := 0) rfl (t1658 hI.1) (by omega) rfl (by omega) (by omega) (by rw [Int32.toInt32_toInt64]) ?_
    refine Ex.run 2 (pc' := 16) (L' := [.ref 1000, .int x, .int w, .ref 1658, uV]) (S' := [.int 0]) rfl ?_
    exact ex_ret rfl (Or.inl rfl) (hrs_0 hI h1 h2 h3 h4 c)
  · dsimp only
    rcases hp with hp | hp | hp
    · exact absurd hp c
    · have hh : hnd K_Ws_cell.2.1 5 22 = some 9 := by decide
      rw [show aT (N', U', t', i', r') e = 22 by show (t' e).1 = 22; rw [ht, hp]; rfl, hh]
      refine ⟨4, _, _, _, rfl, ?_⟩
      refine Ex.run 1 (pc' := 11) (L' := [.ref 1000, .int x, .int w, .ref 1658, uV]) (S' := [.int 1]) rfl ?_
      exact ex_ret rfl (Or.inl rfl) (hrs_1 hI h1 h2 h3 h4 hp c)
    · have hh : hnd K_Ws_cell.2.1 5 24 = some 12 := by decide
      rw [show aT (N', U', t', i', r') e = 24 by show (t' e).1 = 24; rw [ht, hp]; rfl, hh]
      refine ⟨4, _, _, _, rfl, ?_⟩
      refine Ex.run 1 (pc' := 14) (L' := [.ref 1000, .int x, .int w, .ref 1658, uV]) (S' := [.int 2]) rfl ?_
      exact ex_ret rfl (Or.inl rfl) (hrs_1 hI h1 h2 h3 h4 hp c)
set_option maxHeartbeats 1000000 in
theorem h_fish {x w : Int32} (s : Sh N t r) (hC : Rn d 127 [.ref 1000, .int x, .int w] (N, U, t, i, r) (CRs N U t i p [22, 24] A)) (hp : p.1 = 0 ∨ p.1 = 1 ∨ p.1 = 2) : Rn (d + 1) 374 [.ref 1000, .int x, .int w, .ref 1658] (N, U, t, i, r) (HRs N U t i p A) := by
  refine Rn.of (M := K_Ws_fish) (L := [.ref 1000, .int x, .int w, .ref 1658, uV]) rfl (by show (4 : Nat) ≤ 5; omega) rfl rfl ?_
  refine Ex.run 5 (pc' := 5) (L' := [.ref 1000, .int x, .int w, .ref 1658, uV]) (S' := [.int w, .int x, .ref 1000, .int 0, .ref 1658]) rfl ?_
  refine ex_callV (Or.inl rfl) rfl (by show (11 : Nat) < 14; omega) (by show (t 1000).1 = 11; rw [t1000 s]) rfl rfl rfl hC ?_
  rintro q ⟨N', U', t', i', r', hI, h1, h2, h3, h4, (⟨c, rfl⟩ | ⟨c, e, rfl, ht⟩)⟩
  · dsimp only
    refine Ex.run 1 (pc' := 7) (L' := [.ref 1000, .int x, .int w, .ref 1658, uV]) (S' := [.long p.2.toInt64, .int 0, .ref 1658]) rfl ?_
    refine ex_last (jn := 0) rfl (t1658 hI.1) (by omega) rfl (by omega) (by omega) (by rw [Int32.toInt32_toInt64]) ?_
    refine Ex.run 2 (pc' := 16) (L' := [.ref 1000, .int x, .int w, .ref 1658, uV]) (S' := [.int 0]) rfl ?_
    exact ex_ret rfl (Or.inl rfl) (hrs_0 hI h1 h2 h3 h4 c)
  · dsimp only
    rcases hp with hp | hp | hp
    · exact absurd hp c
    · have hh : hnd K_Ws_fish.2.1 5 22 = some 9 := by decide
      rw [show aT (N', U', t', i', r') e = 22 by show (t' e).1 = 22; rw [ht, hp]; rfl, hh]
      refine ⟨4, _, _, _, rfl, ?_⟩
      refine Ex.run 1 (pc' := 11) (L' := [.ref 1000, .int x, .int w, .ref 1658, uV]) (S' := [.int 1]) rfl ?_
      exact ex_ret rfl (Or.inl rfl) (hrs_1 hI h1 h2 h3 h4 hp c)
    · have hh : hnd K_Ws_fish.2.1 5 24 = some 12 := by decide
      rw [show aT (N', U', t', i', r') e = 24 by show (t' e).1 = 24; rw [ht, hp]; rfl, hh]
      refine ⟨4, _, _, _, rfl, ?_⟩
      refine Ex.run 1 (pc' := 14) (L' := [.ref 1000, .int x, .int w, .ref 1658, uV]) (S' := [.int 2]) rfl ?_
      exact ex_ret rfl (Or.inl rfl) (hrs_1 hI h1 h2 h3 h4 hp c)
set_option maxHeartbeats 1000000 in
theorem h_boat {x w : Int32} (s : Sh N t r) (hC : Rn d 128 [.ref 1000, .int x, .int w] (N, U, t, i, r) (CRs N U t i p [22, 24] A)) (hp : p.1 = 0 ∨ p.1 = 1 ∨ p.1 = 2) : Rn (d + 1) 375 [.ref 1000, .int x, .int w, .ref 1658] (N, U, t, i, r) (HRs N U t i p A) := by
  refine Rn.of (M := K_Ws_boat) (L := [.ref 1000, .int x, .int w, .ref 1658, uV]) rfl (by show (4 : Nat) ≤ 5; omega) rfl rfl ?_
  refine Ex.run 5 (pc' := 5) (L' := [.ref 1000, .int x, .int w, .ref 1658, uV]) (S' := [.int w, .int x, .ref 1000, .int 0, .ref 1658]) rfl ?_
  refine ex_callV (Or.inl rfl) rfl (by show (11 : Nat) < 14; omega) (by show (t 1000).1 = 11; rw [t1000 s]) rfl rfl rfl hC ?_
  rintro q ⟨N', U', t', i', r', hI, h1, h2, h3, h4, (⟨c, rfl⟩ | ⟨c, e, rfl, ht⟩)⟩
  · dsimp only
    refine Ex.run 1 (pc' := 7) (L' := [.ref 1000, .int x, .int w, .ref 1658, uV]) (S' := [.long p.2.toInt64, .int 0, .ref 1658]) rfl ?_
    refine ex_last (jn := 0) rfl (t1658 hI.1) (by omega) rfl (by omega) (by omega) (by rw [Int32.toInt32_toInt64]) ?_
    refine Ex.run 2 (pc' := 16) (L' := [.ref 1000, .int x, .int w, .ref 1658, uV]) (S' := [.int 0]) rfl ?_
    exact ex_ret rfl (Or.inl rfl) (hrs_0 hI h1 h2 h3 h4 c)
  · dsimp only
    rcases hp with hp | hp | hp
    · exact absurd hp c
    · have hh : hnd K_Ws_boat.2.1 5 22 = some 9 := by decide
      rw [show aT (N', U', t', i', r') e = 22 by show (t' e).1 = 22; rw [ht, hp]; rfl, hh]
      refine ⟨4, _, _, _, rfl, ?_⟩
      refine Ex.run 1 (pc' := 11) (L' := [.ref 1000, .int x, .int w, .ref 1658, uV]) (S' := [.int 1]) rfl ?_
      exact ex_ret rfl (Or.inl rfl) (hrs_1 hI h1 h2 h3 h4 hp c)
    · have hh : hnd K_Ws_boat.2.1 5 24 = some 12 := by decide
      rw [show aT (N', U', t', i', r') e = 24 by show (t' e).1 = 24; rw [ht, hp]; rfl, hh]
      refine ⟨4, _, _, _, rfl, ?_⟩
      refine Ex.run 1 (pc' := 14) (L' := [.ref 1000, .int x, .int w, .ref 1658, uV]) (S' := [.int 2]) rfl ?_
      exact ex_ret rfl (Or.inl rfl) (hrs_1 hI h1 h2 h3 h4 hp c)
set_option maxHeartbeats 1000000 in
theorem h_buyer {x w : Int32} (s : Sh N t r) (hC : Rn d 129 [.ref 1000, .int x, .int w] (N, U, t, i, r) (CRs N U t i p [22, 24] A)) (hp : p.1 = 0 ∨ p.1 = 1 ∨ p.1 = 2) : Rn (d + 1) 376 [.ref 1000, .int x, .int w, .ref 1658] (N, U, t, i, r) (HRs N U t i p A) := by
  refine Rn.of (M := K_Ws_buyer) (L := [.ref 1000, .int x, .int w, .ref 1658, uV]) rfl (by show (4 : Nat) ≤ 5; omega) rfl rfl ?_
  refine Ex.run 5 (pc' := 5) (L' := [.ref 1000, .int x, .int w, .ref 1658, uV]) (S' := [.int w, .int x, .ref 1000, .int 0, .ref 1658]) rfl ?_
  refine ex_callV (Or.inl rfl) rfl (by show (11 : Nat) < 14; omega) (by show (t 1000).1 = 11; rw [t1000 s]) rfl rfl rfl hC ?_
  rintro q ⟨N', U', t', i', r', hI, h1, h2, h3, h4, (⟨c, rfl⟩ | ⟨c, e, rfl, ht⟩)⟩
  · dsimp only
    refine Ex.run 1 (pc' := 7) (L' := [.ref 1000, .int x, .int w, .ref 1658, uV]) (S' := [.long p.2.toInt64, .int 0, .ref 1658]) rfl ?_
    refine ex_last (jn := 0) rfl (t1658 hI.1) (by omega) rfl (by omega) (by omega) (by rw [Int32.toInt32_toInt64]) ?_
    refine Ex.run 2 (pc' := 16) (L' := [.ref 1000, .int x, .int w, .ref 1658, uV]) (S' := [.int 0]) rfl ?_
    exact ex_ret rfl (Or.inl rfl) (hrs_0 hI h1 h2 h3 h4 c)
  · dsimp only
    rcases hp with hp | hp | hp
    · exact absurd hp c
    · have hh : hnd K_Ws_buyer.2.1 5 22 = some 9 := by decide
      rw [show aT (N', U', t', i', r') e = 22 by show (t' e).1 = 22; rw [ht, hp]; rfl, hh]
      refine ⟨4, _, _, _, rfl, ?_⟩
      refine Ex.run 1 (pc' := 11) (L' := [.ref 1000, .int x, .int w, .ref 1658, uV]) (S' := [.int 1]) rfl ?_
      exact ex_ret rfl (Or.inl rfl) (hrs_1 hI h1 h2 h3 h4 hp c)
    · have hh : hnd K_Ws_buyer.2.1 5 24 = some 12 := by decide
      rw [show aT (N', U', t', i', r') e = 24 by show (t' e).1 = 24; rw [ht, hp]; rfl, hh]
      refine ⟨4, _, _, _, rfl, ?_⟩
      refine Ex.run 1 (pc' := 14) (L' := [.ref 1000, .int x, .int w, .ref 1658, uV]) (S' := [.int 2]) rfl ?_
      exact ex_ret rfl (Or.inl rfl) (hrs_1 hI h1 h2 h3 h4 hp c)
set_option maxHeartbeats 1000000 in
theorem h_dead {x w : Int32} (s : Sh N t r) (hC : Rn d 130 [.ref 1000, .int x, .int w] (N, U, t, i, r) (CRs N U t i p [22, 24] A)) (hp : p.1 = 0 ∨ p.1 = 1 ∨ p.1 = 2) : Rn (d + 1) 377 [.ref 1000, .int x, .int w, .ref 1658] (N, U, t, i, r) (HRs N U t i p A) := by
  refine Rn.of (M := K_Ws_dead) (L := [.ref 1000, .int x, .int w, .ref 1658, uV]) rfl (by show (4 : Nat) ≤ 5; omega) rfl rfl ?_
  refine Ex.run 5 (pc' := 5) (L' := [.ref 1000, .int x, .int w, .ref 1658, uV]) (S' := [.int w, .int x, .ref 1000, .int 0, .ref 1658]) rfl ?_
  refine ex_callV (Or.inl rfl) rfl (by show (11 : Nat) < 14; omega) (by show (t 1000).1 = 11; rw [t1000 s]) rfl rfl rfl hC ?_
  rintro q ⟨N', U', t', i', r', hI, h1, h2, h3, h4, (⟨c, rfl⟩ | ⟨c, e, rfl, ht⟩)⟩
  · dsimp only
    refine Ex.run 1 (pc' := 7) (L' := [.ref 1000, .int x, .int w, .ref 1658, uV]) (S' := [.long p.2.toInt64, .int 0, .ref 1658]) rfl ?_
    refine ex_last (jn := 0) rfl (t1658 hI.1) (by omega) rfl (by omega) (by omega) (by rw [Int32.toInt32_toInt64]) ?_
    refine Ex.run 2 (pc' := 16) (L' := [.ref 1000, .int x, .int w, .ref 1658, uV]) (S' := [.int 0]) rfl ?_
    exact ex_ret rfl (Or.inl rfl) (hrs_0 hI h1 h2 h3 h4 c)
  · dsimp only
    rcases hp with hp | hp | hp
    · exact absurd hp c
    · have hh : hnd K_Ws_dead.2.1 5 22 = some 9 := by decide
      rw [show aT (N', U', t', i', r') e = 22 by show (t' e).1 = 22; rw [ht, hp]; rfl, hh]
      refine ⟨4, _, _, _, rfl, ?_⟩
      refine Ex.run 1 (pc' := 11) (L' := [.ref 1000, .int x, .int w, .ref 1658, uV]) (S' := [.int 1]) rfl ?_
      exact ex_ret rfl (Or.inl rfl) (hrs_1 hI h1 h2 h3 h4 hp c)
    · have hh : hnd K_Ws_dead.2.1 5 24 = some 12 := by decide
      rw [show aT (N', U', t', i', r') e = 24 by show (t' e).1 = 24; rw [ht, hp]; rfl, hh]
      refine ⟨4, _, _, _, rfl, ?_⟩
      refine Ex.run 1 (pc' := 14) (L' := [.ref 1000, .int x, .int w, .ref 1658, uV]) (S' := [.int 2]) rfl ?_
      exact ex_ret rfl (Or.inl rfl) (hrs_1 hI h1 h2 h3 h4 hp c)
set_option maxHeartbeats 1000000 in
theorem h_days {x : Int32} (s : Sh N t r) (hC : Rn d 131 [.ref 1000, .int x] (N, U, t, i, r) (CRs N U t i p [20] A)) (hp : p.1 = 0 ∨ p.1 = 1) : Rn (d + 1) 378 [.ref 1000, .int x, .ref 1658] (N, U, t, i, r) (HRs N U t i p A) := by
  refine Rn.of (M := K_Ws_days) (L := [.ref 1000, .int x, .ref 1658, uV]) rfl (by show (3 : Nat) ≤ 4; omega) rfl rfl ?_
  refine Ex.run 4 (pc' := 4) (L' := [.ref 1000, .int x, .ref 1658, uV]) (S' := [.int x, .ref 1000, .int 0, .ref 1658]) rfl ?_
  refine ex_callV (Or.inl rfl) rfl (by show (11 : Nat) < 14; omega) (by show (t 1000).1 = 11; rw [t1000 s]) rfl rfl rfl hC ?_
  rintro q ⟨N', U', t', i', r', hI, h1, h2, h3, h4, (⟨c, rfl⟩ | ⟨c, e, rfl, ht⟩)⟩
  · dsimp only
    refine Ex.run 1 (pc' := 6) (L' := [.ref 1000, .int x, .ref 1658, uV]) (S' := [.long p.2.toInt64, .int 0, .ref 1658]) rfl ?_
    refine ex_last (jn := 0) rfl (t1658 hI.1) (by omega) rfl (by omega) (by omega) (by rw [Int32.toInt32_toInt64]) ?_
    refine Ex.run 2 (pc' := 12) (L' := [.ref 1000, .int x, .ref 1658, uV]) (S' := [.int 0]) rfl ?_
    exact ex_ret rfl (Or.inl rfl) (hrs_0 hI h1 h2 h3 h4 c)
  · dsimp only
    rcases hp with hp | hp
    · exact absurd hp c
    · have hh : hnd K_Ws_days.2.1 4 20 = some 8 := by decide
      rw [show aT (N', U', t', i', r') e = 20 by show (t' e).1 = 20; rw [ht, hp]; rfl, hh]
      refine ⟨3, _, _, _, rfl, ?_⟩
      refine Ex.run 1 (pc' := 10) (L' := [.ref 1000, .int x, .ref 1658, uV]) (S' := [.int 1]) rfl ?_
      exact ex_ret rfl (Or.inl rfl) (hrs_1 hI h1 h2 h3 h4 hp c)
set_option maxHeartbeats 1000000 in
theorem h_heads {x w : Int32} (s : Sh N t r) (hC : Rn d 132 [.ref 1000, .int x, .int w] (N, U, t, i, r) (CRs N U t i p [22] A)) (hp : p.1 = 0 ∨ p.1 = 1) : Rn (d + 1) 379 [.ref 1000, .int x, .int w, .ref 1658] (N, U, t, i, r) (HRs N U t i p A) := by
  refine Rn.of (M := K_Ws_heads) (L := [.ref 1000, .int x, .int w, .ref 1658, uV]) rfl (by show (4 : Nat) ≤ 5; omega) rfl rfl ?_
  refine Ex.run 5 (pc' := 5) (L' := [.ref 1000, .int x, .int w, .ref 1658, uV]) (S' := [.int w, .int x, .ref 1000, .int 0, .ref 1658]) rfl ?_
  refine ex_callV (Or.inl rfl) rfl (by show (11 : Nat) < 14; omega) (by show (t 1000).1 = 11; rw [t1000 s]) rfl rfl rfl hC ?_
  rintro q ⟨N', U', t', i', r', hI, h1, h2, h3, h4, (⟨c, rfl⟩ | ⟨c, e, rfl, ht⟩)⟩
  · dsimp only
    refine Ex.run 1 (pc' := 7) (L' := [.ref 1000, .int x, .int w, .ref 1658, uV]) (S' := [.long p.2.toInt64, .int 0, .ref 1658]) rfl ?_
    refine ex_last (jn := 0) rfl (t1658 hI.1) (by omega) rfl (by omega) (by omega) (by rw [Int32.toInt32_toInt64]) ?_
    refine Ex.run 2 (pc' := 13) (L' := [.ref 1000, .int x, .int w, .ref 1658, uV]) (S' := [.int 0]) rfl ?_
    exact ex_ret rfl (Or.inl rfl) (hrs_0 hI h1 h2 h3 h4 c)
  · dsimp only
    rcases hp with hp | hp
    · exact absurd hp c
    · have hh : hnd K_Ws_heads.2.1 5 22 = some 9 := by decide
      rw [show aT (N', U', t', i', r') e = 22 by show (t' e).1 = 22; rw [ht, hp]; rfl, hh]
      refine ⟨4, _, _, _, rfl, ?_⟩
      refine Ex.run 1 (pc' := 11) (L' := [.ref 1000, .int x, .int w, .ref 1658, uV]) (S' := [.int 1]) rfl ?_
      exact ex_ret rfl (Or.inl rfl) (hrs_1 hI h1 h2 h3 h4 hp c)
set_option maxHeartbeats 1000000 in
theorem h_ice {x : Int32} (s : Sh N t r) (hC : Rn d 133 [.ref 1000, .int x] (N, U, t, i, r) (CRs N U t i p [20] A)) (hp : p.1 = 0 ∨ p.1 = 1) : Rn (d + 1) 380 [.ref 1000, .int x, .ref 1658] (N, U, t, i, r) (HRs N U t i p A) := by
  refine Rn.of (M := K_Ws_ice) (L := [.ref 1000, .int x, .ref 1658, uV]) rfl (by show (3 : Nat) ≤ 4; omega) rfl rfl ?_
  refine Ex.run 4 (pc' := 4) (L' := [.ref 1000, .int x, .ref 1658, uV]) (S' := [.int x, .ref 1000, .int 0, .ref 1658]) rfl ?_
  refine ex_callV (Or.inl rfl) rfl (by show (11 : Nat) < 14; omega) (by show (t 1000).1 = 11; rw [t1000 s]) rfl rfl rfl hC ?_
  rintro q ⟨N', U', t', i', r', hI, h1, h2, h3, h4, (⟨c, rfl⟩ | ⟨c, e, rfl, ht⟩)⟩
  · dsimp only
    refine Ex.run 1 (pc' := 6) (L' := [.ref 1000, .int x, .ref 1658, uV]) (S' := [.long p.2.toInt64, .int 0, .ref 1658]) rfl ?_
    refine ex_last (jn := 0) rfl (t1658 hI.1) (by omega) rfl (by omega) (by omega) (by rw [Int32.toInt32_toInt64]) ?_
    refine Ex.run 2 (pc' := 12) (L' := [.ref 1000, .int x, .ref 1658, uV]) (S' := [.int 0]) rfl ?_
    exact ex_ret rfl (Or.inl rfl) (hrs_0 hI h1 h2 h3 h4 c)
  · dsimp only
    rcases hp with hp | hp
    · exact absurd hp c
    · have hh : hnd K_Ws_ice.2.1 4 20 = some 8 := by decide
      rw [show aT (N', U', t', i', r') e = 20 by show (t' e).1 = 20; rw [ht, hp]; rfl, hh]
      refine ⟨3, _, _, _, rfl, ?_⟩
      refine Ex.run 1 (pc' := 10) (L' := [.ref 1000, .int x, .ref 1658, uV]) (S' := [.int 1]) rfl ?_
      exact ex_ret rfl (Or.inl rfl) (hrs_1 hI h1 h2 h3 h4 hp c)
set_option maxHeartbeats 1000000 in
theorem h_sponge {x w : Int32} (s : Sh N t r) (hC : Rn d 134 [.ref 1000, .int x, .int w] (N, U, t, i, r) (CRs N U t i p [22, 20, 21] A)) (hp : p.1 = 0 ∨ p.1 = 1 ∨ p.1 = 2 ∨ p.1 = 3) : Rn (d + 1) 381 [.ref 1000, .int x, .int w, .ref 1658] (N, U, t, i, r) (HRs N U t i p A) := by
  refine Rn.of (M := K_Ws_sponge) (L := [.ref 1000, .int x, .int w, .ref 1658, uV]) rfl (by show (4 : Nat) ≤ 5; omega) rfl rfl ?_
  refine Ex.run 5 (pc' := 5) (L' := [.ref 1000, .int x, .int w, .ref 1658, uV]) (S' := [.int w, .int x, .ref 1000, .int 0, .ref 1658]) rfl ?_
  refine ex_callV (Or.inl rfl) rfl (by show (11 : Nat) < 14; omega) (by show (t 1000).1 = 11; rw [t1000 s]) rfl rfl rfl hC ?_
  rintro q ⟨N', U', t', i', r', hI, h1, h2, h3, h4, (⟨c, rfl⟩ | ⟨c, e, rfl, ht⟩)⟩
  · dsimp only
    refine Ex.run 1 (pc' := 7) (L' := [.ref 1000, .int x, .int w, .ref 1658, uV]) (S' := [.long p.2.toInt64, .int 0, .ref 1658]) rfl ?_
    refine ex_last (jn := 0) rfl (t1658 hI.1) (by omega) rfl (by omega) (by omega) (by rw [Int32.toInt32_toInt64]) ?_
    refine Ex.run 2 (pc' := 19) (L' := [.ref 1000, .int x, .int w, .ref 1658, uV]) (S' := [.int 0]) rfl ?_
    exact ex_ret rfl (Or.inl rfl) (hrs_0 hI h1 h2 h3 h4 c)
  · dsimp only
    rcases hp with hp | hp | hp | hp
    · exact absurd hp c
    · have hh : hnd K_Ws_sponge.2.1 5 22 = some 9 := by decide
      rw [show aT (N', U', t', i', r') e = 22 by show (t' e).1 = 22; rw [ht, hp]; rfl, hh]
      refine ⟨4, _, _, _, rfl, ?_⟩
      refine Ex.run 1 (pc' := 11) (L' := [.ref 1000, .int x, .int w, .ref 1658, uV]) (S' := [.int 1]) rfl ?_
      exact ex_ret rfl (Or.inl rfl) (hrs_1 hI h1 h2 h3 h4 hp c)
    · have hh : hnd K_Ws_sponge.2.1 5 20 = some 12 := by decide
      rw [show aT (N', U', t', i', r') e = 20 by show (t' e).1 = 20; rw [ht, hp]; rfl, hh]
      refine ⟨4, _, _, _, rfl, ?_⟩
      refine Ex.run 1 (pc' := 14) (L' := [.ref 1000, .int x, .int w, .ref 1658, uV]) (S' := [.int 2]) rfl ?_
      exact ex_ret rfl (Or.inl rfl) (hrs_1 hI h1 h2 h3 h4 hp c)
    · have hh : hnd K_Ws_sponge.2.1 5 21 = some 15 := by decide
      rw [show aT (N', U', t', i', r') e = 21 by show (t' e).1 = 21; rw [ht, hp]; rfl, hh]
      refine ⟨4, _, _, _, rfl, ?_⟩
      refine Ex.run 1 (pc' := 17) (L' := [.ref 1000, .int x, .int w, .ref 1658, uV]) (S' := [.int 3]) rfl ?_
      exact ex_ret rfl (Or.inl rfl) (hrs_1 hI h1 h2 h3 h4 hp c)
set_option maxHeartbeats 1000000 in
theorem h_pay {x w : Int32} (s : Sh N t r) (hC : Rn d 135 [.ref 1000, .int x, .int w] (N, U, t, i, r) (CRs N U t i p [22, 20] A)) (hp : p.1 = 0 ∨ p.1 = 1 ∨ p.1 = 2) : Rn (d + 1) 382 [.ref 1000, .int x, .int w, .ref 1658] (N, U, t, i, r) (HRs N U t i p A) := by
  refine Rn.of (M := K_Ws_pay) (L := [.ref 1000, .int x, .int w, .ref 1658, uV]) rfl (by show (4 : Nat) ≤ 5; omega) rfl rfl ?_
  refine Ex.run 5 (pc' := 5) (L' := [.ref 1000, .int x, .int w, .ref 1658, uV]) (S' := [.int w, .int x, .ref 1000, .int 0, .ref 1658]) rfl ?_
  refine ex_callV (Or.inl rfl) rfl (by show (11 : Nat) < 14; omega) (by show (t 1000).1 = 11; rw [t1000 s]) rfl rfl rfl hC ?_
  rintro q ⟨N', U', t', i', r', hI, h1, h2, h3, h4, (⟨c, rfl⟩ | ⟨c, e, rfl, ht⟩)⟩
  · dsimp only
    refine Ex.run 1 (pc' := 7) (L' := [.ref 1000, .int x, .int w, .ref 1658, uV]) (S' := [.long p.2.toInt64, .int 0, .ref 1658]) rfl ?_
    refine ex_last (jn := 0) rfl (t1658 hI.1) (by omega) rfl (by omega) (by omega) (by rw [Int32.toInt32_toInt64]) ?_
    refine Ex.run 2 (pc' := 16) (L' := [.ref 1000, .int x, .int w, .ref 1658, uV]) (S' := [.int 0]) rfl ?_
    exact ex_ret rfl (Or.inl rfl) (hrs_0 hI h1 h2 h3 h4 c)
  · dsimp only
    rcases hp with hp | hp | hp
    · exact absurd hp c
    · have hh : hnd K_Ws_pay.2.1 5 22 = some 9 := by decide
      rw [show aT (N', U', t', i', r') e = 22 by show (t' e).1 = 22; rw [ht, hp]; rfl, hh]
      refine ⟨4, _, _, _, rfl, ?_⟩
      refine Ex.run 1 (pc' := 11) (L' := [.ref 1000, .int x, .int w, .ref 1658, uV]) (S' := [.int 1]) rfl ?_
      exact ex_ret rfl (Or.inl rfl) (hrs_1 hI h1 h2 h3 h4 hp c)
    · have hh : hnd K_Ws_pay.2.1 5 20 = some 12 := by decide
      rw [show aT (N', U', t', i', r') e = 20 by show (t' e).1 = 20; rw [ht, hp]; rfl, hh]
      refine ⟨4, _, _, _, rfl, ?_⟩
      refine Ex.run 1 (pc' := 14) (L' := [.ref 1000, .int x, .int w, .ref 1658, uV]) (S' := [.int 2]) rfl ?_
      exact ex_ret rfl (Or.inl rfl) (hrs_1 hI h1 h2 h3 h4 hp c)
set_option maxHeartbeats 1000000 in
theorem h_tell {x w z : Int32} (s : Sh N t r) (hC : Rn d 136 [.ref 1000, .int x, .int w, .int z] (N, U, t, i, r) (CRs N U t i p [22, 20, 21] A)) (hp : p.1 = 0 ∨ p.1 = 1 ∨ p.1 = 2 ∨ p.1 = 3) : Rn (d + 1) 383 [.ref 1000, .int x, .int w, .int z, .ref 1658] (N, U, t, i, r) (HRs N U t i p A) := by
  refine Rn.of (M := K_Ws_tell) (L := [.ref 1000, .int x, .int w, .int z, .ref 1658, uV]) rfl (by show (5 : Nat) ≤ 6; omega) rfl rfl ?_
  refine Ex.run 6 (pc' := 6) (L' := [.ref 1000, .int x, .int w, .int z, .ref 1658, uV]) (S' := [.int z, .int w, .int x, .ref 1000, .int 0, .ref 1658]) rfl ?_
  refine ex_callV (Or.inl rfl) rfl (by show (11 : Nat) < 14; omega) (by show (t 1000).1 = 11; rw [t1000 s]) rfl rfl rfl hC ?_
  rintro q ⟨N', U', t', i', r', hI, h1, h2, h3, h4, (⟨c, rfl⟩ | ⟨c, e, rfl, ht⟩)⟩
  · dsimp only
    refine Ex.run 1 (pc' := 8) (L' := [.ref 1000, .int x, .int w, .int z, .ref 1658, uV]) (S' := [.long p.2.toInt64, .int 0, .ref 1658]) rfl ?_
    refine ex_last (jn := 0) rfl (t1658 hI.1) (by omega) rfl (by omega) (by omega) (by rw [Int32.toInt32_toInt64]) ?_
    refine Ex.run 2 (pc' := 20) (L' := [.ref 1000, .int x, .int w, .int z, .ref 1658, uV]) (S' := [.int 0]) rfl ?_
    exact ex_ret rfl (Or.inl rfl) (hrs_0 hI h1 h2 h3 h4 c)
  · dsimp only
    rcases hp with hp | hp | hp | hp
    · exact absurd hp c
    · have hh : hnd K_Ws_tell.2.1 6 22 = some 10 := by decide
      rw [show aT (N', U', t', i', r') e = 22 by show (t' e).1 = 22; rw [ht, hp]; rfl, hh]
      refine ⟨5, _, _, _, rfl, ?_⟩
      refine Ex.run 1 (pc' := 12) (L' := [.ref 1000, .int x, .int w, .int z, .ref 1658, uV]) (S' := [.int 1]) rfl ?_
      exact ex_ret rfl (Or.inl rfl) (hrs_1 hI h1 h2 h3 h4 hp c)
    · have hh : hnd K_Ws_tell.2.1 6 20 = some 13 := by decide
      rw [show aT (N', U', t', i', r') e = 20 by show (t' e).1 = 20; rw [ht, hp]; rfl, hh]
      refine ⟨5, _, _, _, rfl, ?_⟩
      refine Ex.run 1 (pc' := 15) (L' := [.ref 1000, .int x, .int w, .int z, .ref 1658, uV]) (S' := [.int 2]) rfl ?_
      exact ex_ret rfl (Or.inl rfl) (hrs_1 hI h1 h2 h3 h4 hp c)
    · have hh : hnd K_Ws_tell.2.1 6 21 = some 16 := by decide
      rw [show aT (N', U', t', i', r') e = 21 by show (t' e).1 = 21; rw [ht, hp]; rfl, hh]
      refine ⟨5, _, _, _, rfl, ?_⟩
      refine Ex.run 1 (pc' := 18) (L' := [.ref 1000, .int x, .int w, .int z, .ref 1658, uV]) (S' := [.int 3]) rfl ?_
      exact ex_ret rfl (Or.inl rfl) (hrs_1 hI h1 h2 h3 h4 hp c)
set_option maxHeartbeats 1000000 in
theorem h_release {x : Int32} (s : Sh N t r) (hC : Rn d 137 [.ref 1000, .int x] (N, U, t, i, r) (CRs N U t i p [22, 21] A)) (hp : p.1 = 0 ∨ p.1 = 1 ∨ p.1 = 2) : Rn (d + 1) 384 [.ref 1000, .int x, .ref 1658] (N, U, t, i, r) (HRs N U t i p A) := by
  refine Rn.of (M := K_Ws_release) (L := [.ref 1000, .int x, .ref 1658, uV]) rfl (by show (3 : Nat) ≤ 4; omega) rfl rfl ?_
  refine Ex.run 4 (pc' := 4) (L' := [.ref 1000, .int x, .ref 1658, uV]) (S' := [.int x, .ref 1000, .int 0, .ref 1658]) rfl ?_
  refine ex_callV (Or.inl rfl) rfl (by show (11 : Nat) < 14; omega) (by show (t 1000).1 = 11; rw [t1000 s]) rfl rfl rfl hC ?_
  rintro q ⟨N', U', t', i', r', hI, h1, h2, h3, h4, (⟨c, rfl⟩ | ⟨c, e, rfl, ht⟩)⟩
  · dsimp only
    refine Ex.run 1 (pc' := 6) (L' := [.ref 1000, .int x, .ref 1658, uV]) (S' := [.long p.2.toInt64, .int 0, .ref 1658]) rfl ?_
    refine ex_last (jn := 0) rfl (t1658 hI.1) (by omega) rfl (by omega) (by omega) (by rw [Int32.toInt32_toInt64]) ?_
    refine Ex.run 2 (pc' := 15) (L' := [.ref 1000, .int x, .ref 1658, uV]) (S' := [.int 0]) rfl ?_
    exact ex_ret rfl (Or.inl rfl) (hrs_0 hI h1 h2 h3 h4 c)
  · dsimp only
    rcases hp with hp | hp | hp
    · exact absurd hp c
    · have hh : hnd K_Ws_release.2.1 4 22 = some 8 := by decide
      rw [show aT (N', U', t', i', r') e = 22 by show (t' e).1 = 22; rw [ht, hp]; rfl, hh]
      refine ⟨3, _, _, _, rfl, ?_⟩
      refine Ex.run 1 (pc' := 10) (L' := [.ref 1000, .int x, .ref 1658, uV]) (S' := [.int 1]) rfl ?_
      exact ex_ret rfl (Or.inl rfl) (hrs_1 hI h1 h2 h3 h4 hp c)
    · have hh : hnd K_Ws_release.2.1 4 21 = some 11 := by decide
      rw [show aT (N', U', t', i', r') e = 21 by show (t' e).1 = 21; rw [ht, hp]; rfl, hh]
      refine ⟨3, _, _, _, rfl, ?_⟩
      refine Ex.run 1 (pc' := 13) (L' := [.ref 1000, .int x, .ref 1658, uV]) (S' := [.int 2]) rfl ?_
      exact ex_ret rfl (Or.inl rfl) (hrs_1 hI h1 h2 h3 h4 hp c)
set_option maxHeartbeats 1000000 in
theorem h_current {x w : Int32} (s : Sh N t r) (hC : Rn d 138 [.ref 1000, .int x, .int w] (N, U, t, i, r) (CRs N U t i p [22, 20] A)) (hp : p.1 = 0 ∨ p.1 = 1 ∨ p.1 = 2) : Rn (d + 1) 385 [.ref 1000, .int x, .int w, .ref 1658] (N, U, t, i, r) (HRs N U t i p A) := by
  refine Rn.of (M := K_Ws_current) (L := [.ref 1000, .int x, .int w, .ref 1658, uV]) rfl (by show (4 : Nat) ≤ 5; omega) rfl rfl ?_
  refine Ex.run 5 (pc' := 5) (L' := [.ref 1000, .int x, .int w, .ref 1658, uV]) (S' := [.int w, .int x, .ref 1000, .int 0, .ref 1658]) rfl ?_
  refine ex_callV (Or.inl rfl) rfl (by show (11 : Nat) < 14; omega) (by show (t 1000).1 = 11; rw [t1000 s]) rfl rfl rfl hC ?_
  rintro q ⟨N', U', t', i', r', hI, h1, h2, h3, h4, (⟨c, rfl⟩ | ⟨c, e, rfl, ht⟩)⟩
  · dsimp only
    refine Ex.run 1 (pc' := 7) (L' := [.ref 1000, .int x, .int w, .ref 1658, uV]) (S' := [.long p.2.toInt64, .int 0, .ref 1658]) rfl ?_
    refine ex_last (jn := 0) rfl (t1658 hI.1) (by omega) rfl (by omega) (by omega) (by rw [Int32.toInt32_toInt64]) ?_
    refine Ex.run 2 (pc' := 16) (L' := [.ref 1000, .int x, .int w, .ref 1658, uV]) (S' := [.int 0]) rfl ?_
    exact ex_ret rfl (Or.inl rfl) (hrs_0 hI h1 h2 h3 h4 c)
  · dsimp only
    rcases hp with hp | hp | hp
    · exact absurd hp c
    · have hh : hnd K_Ws_current.2.1 5 22 = some 9 := by decide
      rw [show aT (N', U', t', i', r') e = 22 by show (t' e).1 = 22; rw [ht, hp]; rfl, hh]
      refine ⟨4, _, _, _, rfl, ?_⟩
      refine Ex.run 1 (pc' := 11) (L' := [.ref 1000, .int x, .int w, .ref 1658, uV]) (S' := [.int 1]) rfl ?_
      exact ex_ret rfl (Or.inl rfl) (hrs_1 hI h1 h2 h3 h4 hp c)
    · have hh : hnd K_Ws_current.2.1 5 20 = some 12 := by decide
      rw [show aT (N', U', t', i', r') e = 20 by show (t' e).1 = 20; rw [ht, hp]; rfl, hh]
      refine ⟨4, _, _, _, rfl, ?_⟩
      refine Ex.run 1 (pc' := 14) (L' := [.ref 1000, .int x, .int w, .ref 1658, uV]) (S' := [.int 2]) rfl ?_
      exact ex_ret rfl (Or.inl rfl) (hrs_1 hI h1 h2 h3 h4 hp c)
set_option maxHeartbeats 1000000 in
theorem h_sell {x w : Int32} (s : Sh N t r) (hC : Rn d 139 [.ref 1000, .int x, .int w] (N, U, t, i, r) (CRs N U t i p [22, 21] A)) (hp : p.1 = 0 ∨ p.1 = 1 ∨ p.1 = 2) : Rn (d + 1) 386 [.ref 1000, .int x, .int w, .ref 1658] (N, U, t, i, r) (HRs N U t i p A) := by
  refine Rn.of (M := K_Ws_sell) (L := [.ref 1000, .int x, .int w, .ref 1658, uV]) rfl (by show (4 : Nat) ≤ 5; omega) rfl rfl ?_
  refine Ex.run 5 (pc' := 5) (L' := [.ref 1000, .int x, .int w, .ref 1658, uV]) (S' := [.int w, .int x, .ref 1000, .int 0, .ref 1658]) rfl ?_
  refine ex_callV (Or.inl rfl) rfl (by show (11 : Nat) < 14; omega) (by show (t 1000).1 = 11; rw [t1000 s]) rfl rfl rfl hC ?_
  rintro q ⟨N', U', t', i', r', hI, h1, h2, h3, h4, (⟨c, rfl⟩ | ⟨c, e, rfl, ht⟩)⟩
  · dsimp only
    refine Ex.run 1 (pc' := 7) (L' := [.ref 1000, .int x, .int w, .ref 1658, uV]) (S' := [.long p.2.toInt64, .int 0, .ref 1658]) rfl ?_
    refine ex_last (jn := 0) rfl (t1658 hI.1) (by omega) rfl (by omega) (by omega) (by rw [Int32.toInt32_toInt64]) ?_
    refine Ex.run 2 (pc' := 16) (L' := [.ref 1000, .int x, .int w, .ref 1658, uV]) (S' := [.int 0]) rfl ?_
    exact ex_ret rfl (Or.inl rfl) (hrs_0 hI h1 h2 h3 h4 c)
  · dsimp only
    rcases hp with hp | hp | hp
    · exact absurd hp c
    · have hh : hnd K_Ws_sell.2.1 5 22 = some 9 := by decide
      rw [show aT (N', U', t', i', r') e = 22 by show (t' e).1 = 22; rw [ht, hp]; rfl, hh]
      refine ⟨4, _, _, _, rfl, ?_⟩
      refine Ex.run 1 (pc' := 11) (L' := [.ref 1000, .int x, .int w, .ref 1658, uV]) (S' := [.int 1]) rfl ?_
      exact ex_ret rfl (Or.inl rfl) (hrs_1 hI h1 h2 h3 h4 hp c)
    · have hh : hnd K_Ws_sell.2.1 5 21 = some 12 := by decide
      rw [show aT (N', U', t', i', r') e = 21 by show (t' e).1 = 21; rw [ht, hp]; rfl, hh]
      refine ⟨4, _, _, _, rfl, ?_⟩
      refine Ex.run 1 (pc' := 14) (L' := [.ref 1000, .int x, .int w, .ref 1658, uV]) (S' := [.int 2]) rfl ?_
      exact ex_ret rfl (Or.inl rfl) (hrs_1 hI h1 h2 h3 h4 hp c)
set_option maxHeartbeats 1000000 in
theorem h_where {x w : Int32} (s : Sh N t r) (hC : Rn d 140 [.ref 1000, .int x, .int w] (N, U, t, i, r) (CRs N U t i p [22, 20] A)) (hp : p.1 = 0 ∨ p.1 = 1 ∨ p.1 = 2) : Rn (d + 1) 387 [.ref 1000, .int x, .int w, .ref 1658] (N, U, t, i, r) (HRs N U t i p A) := by
  refine Rn.of (M := K_Ws_where) (L := [.ref 1000, .int x, .int w, .ref 1658, uV]) rfl (by show (4 : Nat) ≤ 5; omega) rfl rfl ?_
  refine Ex.run 5 (pc' := 5) (L' := [.ref 1000, .int x, .int w, .ref 1658, uV]) (S' := [.int w, .int x, .ref 1000, .int 0, .ref 1658]) rfl ?_
  refine ex_callV (Or.inl rfl) rfl (by show (11 : Nat) < 14; omega) (by show (t 1000).1 = 11; rw [t1000 s]) rfl rfl rfl hC ?_
  rintro q ⟨N', U', t', i', r', hI, h1, h2, h3, h4, (⟨c, rfl⟩ | ⟨c, e, rfl, ht⟩)⟩
  · dsimp only
    refine Ex.run 1 (pc' := 7) (L' := [.ref 1000, .int x, .int w, .ref 1658, uV]) (S' := [.long p.2.toInt64, .int 0, .ref 1658]) rfl ?_
    refine ex_last (jn := 0) rfl (t1658 hI.1) (by omega) rfl (by omega) (by omega) (by rw [Int32.toInt32_toInt64]) ?_
    refine Ex.run 2 (pc' := 16) (L' := [.ref 1000, .int x, .int w, .ref 1658, uV]) (S' := [.int 0]) rfl ?_
    exact ex_ret rfl (Or.inl rfl) (hrs_0 hI h1 h2 h3 h4 c)
  · dsimp only
    rcases hp with hp | hp | hp
    · exact absurd hp c
    · have hh : hnd K_Ws_where.2.1 5 22 = some 9 := by decide
      rw [show aT (N', U', t', i', r') e = 22 by show (t' e).1 = 22; rw [ht, hp]; rfl, hh]
      refine ⟨4, _, _, _, rfl, ?_⟩
      refine Ex.run 1 (pc' := 11) (L' := [.ref 1000, .int x, .int w, .ref 1658, uV]) (S' := [.int 1]) rfl ?_
      exact ex_ret rfl (Or.inl rfl) (hrs_1 hI h1 h2 h3 h4 hp c)
    · have hh : hnd K_Ws_where.2.1 5 20 = some 12 := by decide
      rw [show aT (N', U', t', i', r') e = 20 by show (t' e).1 = 20; rw [ht, hp]; rfl, hh]
      refine ⟨4, _, _, _, rfl, ?_⟩
      refine Ex.run 1 (pc' := 14) (L' := [.ref 1000, .int x, .int w, .ref 1658, uV]) (S' := [.int 2]) rfl ?_
      exact ex_ret rfl (Or.inl rfl) (hrs_1 hI h1 h2 h3 h4 hp c)
set_option maxHeartbeats 1000000 in
theorem h_meets {x w : Int32} (s : Sh N t r) (hC : Rn d 141 [.ref 1000, .int x, .int w] (N, U, t, i, r) (CRs N U t i p [22] A)) (hp : p.1 = 0 ∨ p.1 = 1) : Rn (d + 1) 388 [.ref 1000, .int x, .int w, .ref 1658] (N, U, t, i, r) (HRs N U t i p A) := by
  refine Rn.of (M := K_Ws_meets) (L := [.ref 1000, .int x, .int w, .ref 1658, uV]) rfl (by show (4 : Nat) ≤ 5; omega) rfl rfl ?_
  refine Ex.run 5 (pc' := 5) (L' := [.ref 1000, .int x, .int w, .ref 1658, uV]) (S' := [.int w, .int x, .ref 1000, .int 0, .ref 1658]) rfl ?_
  refine ex_callV (Or.inl rfl) rfl (by show (11 : Nat) < 14; omega) (by show (t 1000).1 = 11; rw [t1000 s]) rfl rfl rfl hC ?_
  rintro q ⟨N', U', t', i', r', hI, h1, h2, h3, h4, (⟨c, rfl⟩ | ⟨c, e, rfl, ht⟩)⟩
  · dsimp only
    refine Ex.run 1 (pc' := 7) (L' := [.ref 1000, .int x, .int w, .ref 1658, uV]) (S' := [.long p.2.toInt64, .int 0, .ref 1658]) rfl ?_
    refine ex_last (jn := 0) rfl (t1658 hI.1) (by omega) rfl (by omega) (by omega) (by rw [Int32.toInt32_toInt64]) ?_
    refine Ex.run 2 (pc' := 13) (L' := [.ref 1000, .int x, .int w, .ref 1658, uV]) (S' := [.int 0]) rfl ?_
    exact ex_ret rfl (Or.inl rfl) (hrs_0 hI h1 h2 h3 h4 c)
  · dsimp only
    rcases hp with hp | hp
    · exact absurd hp c
    · have hh : hnd K_Ws_meets.2.1 5 22 = some 9 := by decide
      rw [show aT (N', U', t', i', r') e = 22 by show (t' e).1 = 22; rw [ht, hp]; rfl, hh]
      refine ⟨4, _, _, _, rfl, ?_⟩
      refine Ex.run 1 (pc' := 11) (L' := [.ref 1000, .int x, .int w, .ref 1658, uV]) (S' := [.int 1]) rfl ?_
      exact ex_ret rfl (Or.inl rfl) (hrs_1 hI h1 h2 h3 h4 hp c)
set_option maxHeartbeats 1000000 in
theorem h_haul {x w : Int32} (s : Sh N t r) (hC : Rn d 143 [.ref 1000, .int x, .int w] (N, U, t, i, r) (CRs N U t i p [22, 20] A)) (hp : p.1 = 0 ∨ p.1 = 1 ∨ p.1 = 2) : Rn (d + 1) 389 [.ref 1000, .int x, .int w, .ref 1658] (N, U, t, i, r) (HRs N U t i p A) := by
  refine Rn.of (M := K_Ws_haul) (L := [.ref 1000, .int x, .int w, .ref 1658, uV]) rfl (by show (4 : Nat) ≤ 5; omega) rfl rfl ?_
  refine Ex.run 5 (pc' := 5) (L' := [.ref 1000, .int x, .int w, .ref 1658, uV]) (S' := [.int w, .int x, .ref 1000, .int 0, .ref 1658]) rfl ?_
  refine ex_callV (Or.inl rfl) rfl (by show (11 : Nat) < 14; omega) (by show (t 1000).1 = 11; rw [t1000 s]) rfl rfl rfl hC ?_
  rintro q ⟨N', U', t', i', r', hI, h1, h2, h3, h4, (⟨c, rfl⟩ | ⟨c, e, rfl, ht⟩)⟩
  · dsimp only
    refine Ex.run 1 (pc' := 7) (L' := [.ref 1000, .int x, .int w, .ref 1658, uV]) (S' := [.long p.2.toInt64, .int 0, .ref 1658]) rfl ?_
    refine ex_last (jn := 0) rfl (t1658 hI.1) (by omega) rfl (by omega) (by omega) (by rw [Int32.toInt32_toInt64]) ?_
    refine Ex.run 2 (pc' := 16) (L' := [.ref 1000, .int x, .int w, .ref 1658, uV]) (S' := [.int 0]) rfl ?_
    exact ex_ret rfl (Or.inl rfl) (hrs_0 hI h1 h2 h3 h4 c)
  · dsimp only
    rcases hp with hp | hp | hp
    · exact absurd hp c
    · have hh : hnd K_Ws_haul.2.1 5 22 = some 9 := by decide
      rw [show aT (N', U', t', i', r') e = 22 by show (t' e).1 = 22; rw [ht, hp]; rfl, hh]
      refine ⟨4, _, _, _, rfl, ?_⟩
      refine Ex.run 1 (pc' := 11) (L' := [.ref 1000, .int x, .int w, .ref 1658, uV]) (S' := [.int 1]) rfl ?_
      exact ex_ret rfl (Or.inl rfl) (hrs_1 hI h1 h2 h3 h4 hp c)
    · have hh : hnd K_Ws_haul.2.1 5 20 = some 12 := by decide
      rw [show aT (N', U', t', i', r') e = 20 by show (t' e).1 = 20; rw [ht, hp]; rfl, hh]
      refine ⟨4, _, _, _, rfl, ?_⟩
      refine Ex.run 1 (pc' := 14) (L' := [.ref 1000, .int x, .int w, .ref 1658, uV]) (S' := [.int 2]) rfl ?_
      exact ex_ret rfl (Or.inl rfl) (hrs_1 hI h1 h2 h3 h4 hp c)
set_option maxHeartbeats 1000000 in
theorem h_first {x w : Int32} (s : Sh N t r) (hC : Rn d 144 [.ref 1000, .int x, .int w] (N, U, t, i, r) (CRs N U t i p [22, 20] A)) (hp : p.1 = 0 ∨ p.1 = 1 ∨ p.1 = 2) : Rn (d + 1) 390 [.ref 1000, .int x, .int w, .ref 1658] (N, U, t, i, r) (HRs N U t i p A) := by
  refine Rn.of (M := K_Ws_first) (L := [.ref 1000, .int x, .int w, .ref 1658, uV]) rfl (by show (4 : Nat) ≤ 5; omega) rfl rfl ?_
  refine Ex.run 5 (pc' := 5) (L' := [.ref 1000, .int x, .int w, .ref 1658, uV]) (S' := [.int w, .int x, .ref 1000, .int 0, .ref 1658]) rfl ?_
  refine ex_callV (Or.inl rfl) rfl (by show (11 : Nat) < 14; omega) (by show (t 1000).1 = 11; rw [t1000 s]) rfl rfl rfl hC ?_
  rintro q ⟨N', U', t', i', r', hI, h1, h2, h3, h4, (⟨c, rfl⟩ | ⟨c, e, rfl, ht⟩)⟩
  · dsimp only
    refine Ex.run 1 (pc' := 7) (L' := [.ref 1000, .int x, .int w, .ref 1658, uV]) (S' := [.long p.2.toInt64, .int 0, .ref 1658]) rfl ?_
    refine ex_last (jn := 0) rfl (t1658 hI.1) (by omega) rfl (by omega) (by omega) (by rw [Int32.toInt32_toInt64]) ?_
    refine Ex.run 2 (pc' := 16) (L' := [.ref 1000, .int x, .int w, .ref 1658, uV]) (S' := [.int 0]) rfl ?_
    exact ex_ret rfl (Or.inl rfl) (hrs_0 hI h1 h2 h3 h4 c)
  · dsimp only
    rcases hp with hp | hp | hp
    · exact absurd hp c
    · have hh : hnd K_Ws_first.2.1 5 22 = some 9 := by decide
      rw [show aT (N', U', t', i', r') e = 22 by show (t' e).1 = 22; rw [ht, hp]; rfl, hh]
      refine ⟨4, _, _, _, rfl, ?_⟩
      refine Ex.run 1 (pc' := 11) (L' := [.ref 1000, .int x, .int w, .ref 1658, uV]) (S' := [.int 1]) rfl ?_
      exact ex_ret rfl (Or.inl rfl) (hrs_1 hI h1 h2 h3 h4 hp c)
    · have hh : hnd K_Ws_first.2.1 5 20 = some 12 := by decide
      rw [show aT (N', U', t', i', r') e = 20 by show (t' e).1 = 20; rw [ht, hp]; rfl, hh]
      refine ⟨4, _, _, _, rfl, ?_⟩
      refine Ex.run 1 (pc' := 14) (L' := [.ref 1000, .int x, .int w, .ref 1658, uV]) (S' := [.int 2]) rfl ?_
      exact ex_ret rfl (Or.inl rfl) (hrs_1 hI h1 h2 h3 h4 hp c)
set_option maxHeartbeats 1000000 in
theorem h_whose {x : Int32} (s : Sh N t r) (hC : Rn d 146 [.ref 1000, .int x] (N, U, t, i, r) (CRs N U t i p [22] A)) (hp : p.1 = 0 ∨ p.1 = 1) : Rn (d + 1) 391 [.ref 1000, .int x, .ref 1658] (N, U, t, i, r) (HRs N U t i p A) := by
  refine Rn.of (M := K_Ws_whose) (L := [.ref 1000, .int x, .ref 1658, uV]) rfl (by show (3 : Nat) ≤ 4; omega) rfl rfl ?_
  refine Ex.run 4 (pc' := 4) (L' := [.ref 1000, .int x, .ref 1658, uV]) (S' := [.int x, .ref 1000, .int 0, .ref 1658]) rfl ?_
  refine ex_callV (Or.inl rfl) rfl (by show (11 : Nat) < 14; omega) (by show (t 1000).1 = 11; rw [t1000 s]) rfl rfl rfl hC ?_
  rintro q ⟨N', U', t', i', r', hI, h1, h2, h3, h4, (⟨c, rfl⟩ | ⟨c, e, rfl, ht⟩)⟩
  · dsimp only
    refine Ex.run 1 (pc' := 6) (L' := [.ref 1000, .int x, .ref 1658, uV]) (S' := [.long p.2.toInt64, .int 0, .ref 1658]) rfl ?_
    refine ex_last (jn := 0) rfl (t1658 hI.1) (by omega) rfl (by omega) (by omega) (by rw [Int32.toInt32_toInt64]) ?_
    refine Ex.run 2 (pc' := 12) (L' := [.ref 1000, .int x, .ref 1658, uV]) (S' := [.int 0]) rfl ?_
    exact ex_ret rfl (Or.inl rfl) (hrs_0 hI h1 h2 h3 h4 c)
  · dsimp only
    rcases hp with hp | hp
    · exact absurd hp c
    · have hh : hnd K_Ws_whose.2.1 4 22 = some 8 := by decide
      rw [show aT (N', U', t', i', r') e = 22 by show (t' e).1 = 22; rw [ht, hp]; rfl, hh]
      refine ⟨3, _, _, _, rfl, ?_⟩
      refine Ex.run 1 (pc' := 10) (L' := [.ref 1000, .int x, .ref 1658, uV]) (S' := [.int 1]) rfl ?_
      exact ex_ret rfl (Or.inl rfl) (hrs_1 hI h1 h2 h3 h4 hp c)
set_option maxHeartbeats 1000000 in
theorem h_parted {x : Int32} (s : Sh N t r) (hC : Rn d 147 [.ref 1000, .int x] (N, U, t, i, r) (CRs N U t i p [20] A)) (hp : p.1 = 0 ∨ p.1 = 1) : Rn (d + 1) 392 [.ref 1000, .int x, .ref 1658] (N, U, t, i, r) (HRs N U t i p A) := by
  refine Rn.of (M := K_Ws_parted) (L := [.ref 1000, .int x, .ref 1658, uV]) rfl (by show (3 : Nat) ≤ 4; omega) rfl rfl ?_
  refine Ex.run 4 (pc' := 4) (L' := [.ref 1000, .int x, .ref 1658, uV]) (S' := [.int x, .ref 1000, .int 0, .ref 1658]) rfl ?_
  refine ex_callV (Or.inl rfl) rfl (by show (11 : Nat) < 14; omega) (by show (t 1000).1 = 11; rw [t1000 s]) rfl rfl rfl hC ?_
  rintro q ⟨N', U', t', i', r', hI, h1, h2, h3, h4, (⟨c, rfl⟩ | ⟨c, e, rfl, ht⟩)⟩
  · dsimp only
    refine Ex.run 1 (pc' := 6) (L' := [.ref 1000, .int x, .ref 1658, uV]) (S' := [.long p.2.toInt64, .int 0, .ref 1658]) rfl ?_
    refine ex_last (jn := 0) rfl (t1658 hI.1) (by omega) rfl (by omega) (by omega) (by rw [Int32.toInt32_toInt64]) ?_
    refine Ex.run 2 (pc' := 12) (L' := [.ref 1000, .int x, .ref 1658, uV]) (S' := [.int 0]) rfl ?_
    exact ex_ret rfl (Or.inl rfl) (hrs_0 hI h1 h2 h3 h4 c)
  · dsimp only
    rcases hp with hp | hp
    · exact absurd hp c
    · have hh : hnd K_Ws_parted.2.1 4 20 = some 8 := by decide
      rw [show aT (N', U', t', i', r') e = 20 by show (t' e).1 = 20; rw [ht, hp]; rfl, hh]
      refine ⟨3, _, _, _, rfl, ?_⟩
      refine Ex.run 1 (pc' := 10) (L' := [.ref 1000, .int x, .ref 1658, uV]) (S' := [.int 1]) rfl ?_
      exact ex_ret rfl (Or.inl rfl) (hrs_1 hI h1 h2 h3 h4 hp c)
set_option maxHeartbeats 1000000 in
theorem h_fewest {x : Int32} (s : Sh N t r) (hC : Rn d 148 [.ref 1000, .int x] (N, U, t, i, r) (CRs N U t i p [20] A)) (hp : p.1 = 0 ∨ p.1 = 1) : Rn (d + 1) 393 [.ref 1000, .int x, .ref 1658] (N, U, t, i, r) (HRs N U t i p A) := by
  refine Rn.of (M := K_Ws_fewest) (L := [.ref 1000, .int x, .ref 1658, uV]) rfl (by show (3 : Nat) ≤ 4; omega) rfl rfl ?_
  refine Ex.run 4 (pc' := 4) (L' := [.ref 1000, .int x, .ref 1658, uV]) (S' := [.int x, .ref 1000, .int 0, .ref 1658]) rfl ?_
  refine ex_callV (Or.inl rfl) rfl (by show (11 : Nat) < 14; omega) (by show (t 1000).1 = 11; rw [t1000 s]) rfl rfl rfl hC ?_
  rintro q ⟨N', U', t', i', r', hI, h1, h2, h3, h4, (⟨c, rfl⟩ | ⟨c, e, rfl, ht⟩)⟩
  · dsimp only
    refine Ex.run 1 (pc' := 6) (L' := [.ref 1000, .int x, .ref 1658, uV]) (S' := [.long p.2.toInt64, .int 0, .ref 1658]) rfl ?_
    refine ex_last (jn := 0) rfl (t1658 hI.1) (by omega) rfl (by omega) (by omega) (by rw [Int32.toInt32_toInt64]) ?_
    refine Ex.run 2 (pc' := 12) (L' := [.ref 1000, .int x, .ref 1658, uV]) (S' := [.int 0]) rfl ?_
    exact ex_ret rfl (Or.inl rfl) (hrs_0 hI h1 h2 h3 h4 c)
  · dsimp only
    rcases hp with hp | hp
    · exact absurd hp c
    · have hh : hnd K_Ws_fewest.2.1 4 20 = some 8 := by decide
      rw [show aT (N', U', t', i', r') e = 20 by show (t' e).1 = 20; rw [ht, hp]; rfl, hh]
      refine ⟨3, _, _, _, rfl, ?_⟩
      refine Ex.run 1 (pc' := 10) (L' := [.ref 1000, .int x, .ref 1658, uV]) (S' := [.int 1]) rfl ?_
      exact ex_ret rfl (Or.inl rfl) (hrs_1 hI h1 h2 h3 h4 hp c)
set_option maxHeartbeats 1000000 in
theorem h_turned {x : Int32} (s : Sh N t r) (hC : Rn d 149 [.ref 1000, .int x] (N, U, t, i, r) (CRs N U t i p [20] A)) (hp : p.1 = 0 ∨ p.1 = 1) : Rn (d + 1) 394 [.ref 1000, .int x, .ref 1658] (N, U, t, i, r) (HRs N U t i p A) := by
  refine Rn.of (M := K_Ws_turned) (L := [.ref 1000, .int x, .ref 1658, uV]) rfl (by show (3 : Nat) ≤ 4; omega) rfl rfl ?_
  refine Ex.run 4 (pc' := 4) (L' := [.ref 1000, .int x, .ref 1658, uV]) (S' := [.int x, .ref 1000, .int 0, .ref 1658]) rfl ?_
  refine ex_callV (Or.inl rfl) rfl (by show (11 : Nat) < 14; omega) (by show (t 1000).1 = 11; rw [t1000 s]) rfl rfl rfl hC ?_
  rintro q ⟨N', U', t', i', r', hI, h1, h2, h3, h4, (⟨c, rfl⟩ | ⟨c, e, rfl, ht⟩)⟩
  · dsimp only
    refine Ex.run 1 (pc' := 6) (L' := [.ref 1000, .int x, .ref 1658, uV]) (S' := [.long p.2.toInt64, .int 0, .ref 1658]) rfl ?_
    refine ex_last (jn := 0) rfl (t1658 hI.1) (by omega) rfl (by omega) (by omega) (by rw [Int32.toInt32_toInt64]) ?_
    refine Ex.run 2 (pc' := 12) (L' := [.ref 1000, .int x, .ref 1658, uV]) (S' := [.int 0]) rfl ?_
    exact ex_ret rfl (Or.inl rfl) (hrs_0 hI h1 h2 h3 h4 c)
  · dsimp only
    rcases hp with hp | hp
    · exact absurd hp c
    · have hh : hnd K_Ws_turned.2.1 4 20 = some 8 := by decide
      rw [show aT (N', U', t', i', r') e = 20 by show (t' e).1 = 20; rw [ht, hp]; rfl, hh]
      refine ⟨3, _, _, _, rfl, ?_⟩
      refine Ex.run 1 (pc' := 10) (L' := [.ref 1000, .int x, .ref 1658, uV]) (S' := [.int 1]) rfl ?_
      exact ex_ret rfl (Or.inl rfl) (hrs_1 hI h1 h2 h3 h4 hp c)
set_option maxHeartbeats 1000000 in
theorem h_ask (s : Sh N t r) (hC : Rn d 150 [.ref 1000] (N, U, t, i, r) (CRs N U t i p [20] A)) (hp : p.1 = 0 ∨ p.1 = 1) : Rn (d + 1) 395 [.ref 1000, .ref 1658] (N, U, t, i, r) (HRs N U t i p A) := by
  refine Rn.of (M := K_Ws_ask) (L := [.ref 1000, .ref 1658, uV]) rfl (by show (2 : Nat) ≤ 3; omega) rfl rfl ?_
  refine Ex.run 3 (pc' := 3) (L' := [.ref 1000, .ref 1658, uV]) (S' := [.ref 1000, .int 0, .ref 1658]) rfl ?_
  refine ex_callV (Or.inl rfl) rfl (by show (11 : Nat) < 14; omega) (by show (t 1000).1 = 11; rw [t1000 s]) rfl rfl rfl hC ?_
  rintro q ⟨N', U', t', i', r', hI, h1, h2, h3, h4, (⟨c, rfl⟩ | ⟨c, e, rfl, ht⟩)⟩
  · dsimp only
    refine Ex.run 1 (pc' := 5) (L' := [.ref 1000, .ref 1658, uV]) (S' := [.long p.2.toInt64, .int 0, .ref 1658]) rfl ?_
    refine ex_last (jn := 0) rfl (t1658 hI.1) (by omega) rfl (by omega) (by omega) (by rw [Int32.toInt32_toInt64]) ?_
    refine Ex.run 2 (pc' := 11) (L' := [.ref 1000, .ref 1658, uV]) (S' := [.int 0]) rfl ?_
    exact ex_ret rfl (Or.inl rfl) (hrs_0 hI h1 h2 h3 h4 c)
  · dsimp only
    rcases hp with hp | hp
    · exact absurd hp c
    · have hh : hnd K_Ws_ask.2.1 3 20 = some 7 := by decide
      rw [show aT (N', U', t', i', r') e = 20 by show (t' e).1 = 20; rw [ht, hp]; rfl, hh]
      refine ⟨2, _, _, _, rfl, ?_⟩
      refine Ex.run 1 (pc' := 9) (L' := [.ref 1000, .ref 1658, uV]) (S' := [.int 1]) rfl ?_
      exact ex_ret rfl (Or.inl rfl) (hrs_1 hI h1 h2 h3 h4 hp c)
set_option maxHeartbeats 1000000 in
theorem h_sale {x : Int32} (s : Sh N t r) (hC : Rn d 151 [.ref 1000, .int x] (N, U, t, i, r) (CRs N U t i p [22] A)) (hp : p.1 = 0 ∨ p.1 = 1) : Rn (d + 1) 396 [.ref 1000, .int x, .ref 1658] (N, U, t, i, r) (HRs N U t i p A) := by
  refine Rn.of (M := K_Ws_sale) (L := [.ref 1000, .int x, .ref 1658, uV]) rfl (by show (3 : Nat) ≤ 4; omega) rfl rfl ?_
  refine Ex.run 4 (pc' := 4) (L' := [.ref 1000, .int x, .ref 1658, uV]) (S' := [.int x, .ref 1000, .int 0, .ref 1658]) rfl ?_
  refine ex_callV (Or.inl rfl) rfl (by show (11 : Nat) < 14; omega) (by show (t 1000).1 = 11; rw [t1000 s]) rfl rfl rfl hC ?_
  rintro q ⟨N', U', t', i', r', hI, h1, h2, h3, h4, (⟨c, rfl⟩ | ⟨c, e, rfl, ht⟩)⟩
  · dsimp only
    refine Ex.run 1 (pc' := 6) (L' := [.ref 1000, .int x, .ref 1658, uV]) (S' := [.long p.2.toInt64, .int 0, .ref 1658]) rfl ?_
    refine ex_last (jn := 0) rfl (t1658 hI.1) (by omega) rfl (by omega) (by omega) (by rw [Int32.toInt32_toInt64]) ?_
    refine Ex.run 2 (pc' := 12) (L' := [.ref 1000, .int x, .ref 1658, uV]) (S' := [.int 0]) rfl ?_
    exact ex_ret rfl (Or.inl rfl) (hrs_0 hI h1 h2 h3 h4 c)
  · dsimp only
    rcases hp with hp | hp
    · exact absurd hp c
    · have hh : hnd K_Ws_sale.2.1 4 22 = some 8 := by decide
      rw [show aT (N', U', t', i', r') e = 22 by show (t' e).1 = 22; rw [ht, hp]; rfl, hh]
      refine ⟨3, _, _, _, rfl, ?_⟩
      refine Ex.run 1 (pc' := 10) (L' := [.ref 1000, .int x, .ref 1658, uV]) (S' := [.int 1]) rfl ?_
      exact ex_ret rfl (Or.inl rfl) (hrs_1 hI h1 h2 h3 h4 hp c)
set_option maxHeartbeats 1000000 in
theorem h_chase {x w : Int32} (s : Sh N t r) (hC : Rn d 154 [.ref 1000, .int x, .int w] (N, U, t, i, r) (CRs N U t i p [20] A)) (hp : p.1 = 0 ∨ p.1 = 1) : Rn (d + 1) 397 [.ref 1000, .int x, .int w, .ref 1658] (N, U, t, i, r) (HRs N U t i p A) := by
  refine Rn.of (M := K_Ws_chase) (L := [.ref 1000, .int x, .int w, .ref 1658, uV]) rfl (by show (4 : Nat) ≤ 5; omega) rfl rfl ?_
  refine Ex.run 5 (pc' := 5) (L' := [.ref 1000, .int x, .int w, .ref 1658, uV]) (S' := [.int w, .int x, .ref 1000, .int 0, .ref 1658]) rfl ?_
  refine ex_callV (Or.inl rfl) rfl (by show (11 : Nat) < 14; omega) (by show (t 1000).1 = 11; rw [t1000 s]) rfl rfl rfl hC ?_
  rintro q ⟨N', U', t', i', r', hI, h1, h2, h3, h4, (⟨c, rfl⟩ | ⟨c, e, rfl, ht⟩)⟩
  · dsimp only
    refine Ex.run 1 (pc' := 7) (L' := [.ref 1000, .int x, .int w, .ref 1658, uV]) (S' := [.long p.2.toInt64, .int 0, .ref 1658]) rfl ?_
    refine ex_last (jn := 0) rfl (t1658 hI.1) (by omega) rfl (by omega) (by omega) (by rw [Int32.toInt32_toInt64]) ?_
    refine Ex.run 2 (pc' := 13) (L' := [.ref 1000, .int x, .int w, .ref 1658, uV]) (S' := [.int 0]) rfl ?_
    exact ex_ret rfl (Or.inl rfl) (hrs_0 hI h1 h2 h3 h4 c)
  · dsimp only
    rcases hp with hp | hp
    · exact absurd hp c
    · have hh : hnd K_Ws_chase.2.1 5 20 = some 9 := by decide
      rw [show aT (N', U', t', i', r') e = 20 by show (t' e).1 = 20; rw [ht, hp]; rfl, hh]
      refine ⟨4, _, _, _, rfl, ?_⟩
      refine Ex.run 1 (pc' := 11) (L' := [.ref 1000, .int x, .int w, .ref 1658, uV]) (S' := [.int 1]) rfl ?_
      exact ex_ret rfl (Or.inl rfl) (hrs_1 hI h1 h2 h3 h4 hp c)
set_option maxHeartbeats 1000000 in
theorem h_pairs {x : Int32} (s : Sh N t r) (hC : Rn d 155 [.ref 1000, .int x] (N, U, t, i, r) (CRs N U t i p [22] A)) (hp : p.1 = 0 ∨ p.1 = 1) : Rn (d + 1) 398 [.ref 1000, .int x, .ref 1658] (N, U, t, i, r) (HRs N U t i p A) := by
  refine Rn.of (M := K_Ws_pairs) (L := [.ref 1000, .int x, .ref 1658, uV]) rfl (by show (3 : Nat) ≤ 4; omega) rfl rfl ?_
  refine Ex.run 4 (pc' := 4) (L' := [.ref 1000, .int x, .ref 1658, uV]) (S' := [.int x, .ref 1000, .int 0, .ref 1658]) rfl ?_
  refine ex_callV (Or.inl rfl) rfl (by show (11 : Nat) < 14; omega) (by show (t 1000).1 = 11; rw [t1000 s]) rfl rfl rfl hC ?_
  rintro q ⟨N', U', t', i', r', hI, h1, h2, h3, h4, (⟨c, rfl⟩ | ⟨c, e, rfl, ht⟩)⟩
  · dsimp only
    refine Ex.run 1 (pc' := 6) (L' := [.ref 1000, .int x, .ref 1658, uV]) (S' := [.long p.2.toInt64, .int 0, .ref 1658]) rfl ?_
    refine ex_last (jn := 0) rfl (t1658 hI.1) (by omega) rfl (by omega) (by omega) (by rw [Int32.toInt32_toInt64]) ?_
    refine Ex.run 2 (pc' := 12) (L' := [.ref 1000, .int x, .ref 1658, uV]) (S' := [.int 0]) rfl ?_
    exact ex_ret rfl (Or.inl rfl) (hrs_0 hI h1 h2 h3 h4 c)
  · dsimp only
    rcases hp with hp | hp
    · exact absurd hp c
    · have hh : hnd K_Ws_pairs.2.1 4 22 = some 8 := by decide
      rw [show aT (N', U', t', i', r') e = 22 by show (t' e).1 = 22; rw [ht, hp]; rfl, hh]
      refine ⟨3, _, _, _, rfl, ?_⟩
      refine Ex.run 1 (pc' := 10) (L' := [.ref 1000, .int x, .ref 1658, uV]) (S' := [.int 1]) rfl ?_
      exact ex_ret rfl (Or.inl rfl) (hrs_1 hI h1 h2 h3 h4 hp c)
set_option maxHeartbeats 1000000 in
theorem h_rests {x w : Int32} (s : Sh N t r) (hC : Rn d 156 [.ref 1000, .int x, .int w] (N, U, t, i, r) (CRs N U t i p [22] A)) (hp : p.1 = 0 ∨ p.1 = 1) : Rn (d + 1) 399 [.ref 1000, .int x, .int w, .ref 1658] (N, U, t, i, r) (HRs N U t i p A) := by
  refine Rn.of (M := K_Ws_rests) (L := [.ref 1000, .int x, .int w, .ref 1658, uV]) rfl (by show (4 : Nat) ≤ 5; omega) rfl rfl ?_
  refine Ex.run 5 (pc' := 5) (L' := [.ref 1000, .int x, .int w, .ref 1658, uV]) (S' := [.int w, .int x, .ref 1000, .int 0, .ref 1658]) rfl ?_
  refine ex_callV (Or.inl rfl) rfl (by show (11 : Nat) < 14; omega) (by show (t 1000).1 = 11; rw [t1000 s]) rfl rfl rfl hC ?_
  rintro q ⟨N', U', t', i', r', hI, h1, h2, h3, h4, (⟨c, rfl⟩ | ⟨c, e, rfl, ht⟩)⟩
  · dsimp only
    refine Ex.run 1 (pc' := 7) (L' := [.ref 1000, .int x, .int w, .ref 1658, uV]) (S' := [.long p.2.toInt64, .int 0, .ref 1658]) rfl ?_
    refine ex_last (jn := 0) rfl (t1658 hI.1) (by omega) rfl (by omega) (by omega) (by rw [Int32.toInt32_toInt64]) ?_
    refine Ex.run 2 (pc' := 13) (L' := [.ref 1000, .int x, .int w, .ref 1658, uV]) (S' := [.int 0]) rfl ?_
    exact ex_ret rfl (Or.inl rfl) (hrs_0 hI h1 h2 h3 h4 c)
  · dsimp only
    rcases hp with hp | hp
    · exact absurd hp c
    · have hh : hnd K_Ws_rests.2.1 5 22 = some 9 := by decide
      rw [show aT (N', U', t', i', r') e = 22 by show (t' e).1 = 22; rw [ht, hp]; rfl, hh]
      refine ⟨4, _, _, _, rfl, ?_⟩
      refine Ex.run 1 (pc' := 11) (L' := [.ref 1000, .int x, .int w, .ref 1658, uV]) (S' := [.int 1]) rfl ?_
      exact ex_ret rfl (Or.inl rfl) (hrs_1 hI h1 h2 h3 h4 hp c)
set_option maxHeartbeats 1000000 in
theorem h_odds {x : Int32} (s : Sh N t r) (hC : Rn d 157 [.ref 1000, .int x] (N, U, t, i, r) (CRs N U t i p [20] A)) (hp : p.1 = 0 ∨ p.1 = 1) : Rn (d + 1) 400 [.ref 1000, .int x, .ref 1658] (N, U, t, i, r) (HRs N U t i p A) := by
  refine Rn.of (M := K_Ws_odds) (L := [.ref 1000, .int x, .ref 1658, uV]) rfl (by show (3 : Nat) ≤ 4; omega) rfl rfl ?_
  refine Ex.run 4 (pc' := 4) (L' := [.ref 1000, .int x, .ref 1658, uV]) (S' := [.int x, .ref 1000, .int 0, .ref 1658]) rfl ?_
  refine ex_callV (Or.inl rfl) rfl (by show (11 : Nat) < 14; omega) (by show (t 1000).1 = 11; rw [t1000 s]) rfl rfl rfl hC ?_
  rintro q ⟨N', U', t', i', r', hI, h1, h2, h3, h4, (⟨c, rfl⟩ | ⟨c, e, rfl, ht⟩)⟩
  · dsimp only
    refine Ex.run 1 (pc' := 6) (L' := [.ref 1000, .int x, .ref 1658, uV]) (S' := [.long p.2.toInt64, .int 0, .ref 1658]) rfl ?_
    refine ex_last (jn := 0) rfl (t1658 hI.1) (by omega) rfl (by omega) (by omega) (by rw [Int32.toInt32_toInt64]) ?_
    refine Ex.run 2 (pc' := 12) (L' := [.ref 1000, .int x, .ref 1658, uV]) (S' := [.int 0]) rfl ?_
    exact ex_ret rfl (Or.inl rfl) (hrs_0 hI h1 h2 h3 h4 c)
  · dsimp only
    rcases hp with hp | hp
    · exact absurd hp c
    · have hh : hnd K_Ws_odds.2.1 4 20 = some 8 := by decide
      rw [show aT (N', U', t', i', r') e = 20 by show (t' e).1 = 20; rw [ht, hp]; rfl, hh]
      refine ⟨3, _, _, _, rfl, ?_⟩
      refine Ex.run 1 (pc' := 10) (L' := [.ref 1000, .int x, .ref 1658, uV]) (S' := [.int 1]) rfl ?_
      exact ex_ret rfl (Or.inl rfl) (hrs_1 hI h1 h2 h3 h4 hp c)
set_option maxHeartbeats 1000000 in
theorem h_kind {x : Int32} (s : Sh N t r) (hC : Rn d 160 [.ref 1000, .int x] (N, U, t, i, r) (CRs N U t i p [22] A)) (hp : p.1 = 0 ∨ p.1 = 1) : Rn (d + 1) 401 [.ref 1000, .int x, .ref 1658] (N, U, t, i, r) (HRs N U t i p A) := by
  refine Rn.of (M := K_Ws_kind) (L := [.ref 1000, .int x, .ref 1658, uV]) rfl (by show (3 : Nat) ≤ 4; omega) rfl rfl ?_
  refine Ex.run 4 (pc' := 4) (L' := [.ref 1000, .int x, .ref 1658, uV]) (S' := [.int x, .ref 1000, .int 0, .ref 1658]) rfl ?_
  refine ex_callV (Or.inl rfl) rfl (by show (11 : Nat) < 14; omega) (by show (t 1000).1 = 11; rw [t1000 s]) rfl rfl rfl hC ?_
  rintro q ⟨N', U', t', i', r', hI, h1, h2, h3, h4, (⟨c, rfl⟩ | ⟨c, e, rfl, ht⟩)⟩
  · dsimp only
    refine Ex.run 1 (pc' := 6) (L' := [.ref 1000, .int x, .ref 1658, uV]) (S' := [.long p.2.toInt64, .int 0, .ref 1658]) rfl ?_
    refine ex_last (jn := 0) rfl (t1658 hI.1) (by omega) rfl (by omega) (by omega) (by rw [Int32.toInt32_toInt64]) ?_
    refine Ex.run 2 (pc' := 12) (L' := [.ref 1000, .int x, .ref 1658, uV]) (S' := [.int 0]) rfl ?_
    exact ex_ret rfl (Or.inl rfl) (hrs_0 hI h1 h2 h3 h4 c)
  · dsimp only
    rcases hp with hp | hp
    · exact absurd hp c
    · have hh : hnd K_Ws_kind.2.1 4 22 = some 8 := by decide
      rw [show aT (N', U', t', i', r') e = 22 by show (t' e).1 = 22; rw [ht, hp]; rfl, hh]
      refine ⟨3, _, _, _, rfl, ?_⟩
      refine Ex.run 1 (pc' := 10) (L' := [.ref 1000, .int x, .ref 1658, uV]) (S' := [.int 1]) rfl ?_
      exact ex_ret rfl (Or.inl rfl) (hrs_1 hI h1 h2 h3 h4 hp c)
set_option maxHeartbeats 1000000 in
theorem h_spoils {x : Int32} (s : Sh N t r) (hC : Rn d 165 [.ref 1000, .int x] (N, U, t, i, r) (CRs N U t i p [20] A)) (hp : p.1 = 0 ∨ p.1 = 1) : Rn (d + 1) 402 [.ref 1000, .int x, .ref 1658] (N, U, t, i, r) (HRs N U t i p A) := by
  refine Rn.of (M := K_Ws_spoils) (L := [.ref 1000, .int x, .ref 1658, uV]) rfl (by show (3 : Nat) ≤ 4; omega) rfl rfl ?_
  refine Ex.run 4 (pc' := 4) (L' := [.ref 1000, .int x, .ref 1658, uV]) (S' := [.int x, .ref 1000, .int 0, .ref 1658]) rfl ?_
  refine ex_callV (Or.inl rfl) rfl (by show (11 : Nat) < 14; omega) (by show (t 1000).1 = 11; rw [t1000 s]) rfl rfl rfl hC ?_
  rintro q ⟨N', U', t', i', r', hI, h1, h2, h3, h4, (⟨c, rfl⟩ | ⟨c, e, rfl, ht⟩)⟩
  · dsimp only
    refine Ex.run 1 (pc' := 6) (L' := [.ref 1000, .int x, .ref 1658, uV]) (S' := [.long p.2.toInt64, .int 0, .ref 1658]) rfl ?_
    refine ex_last (jn := 0) rfl (t1658 hI.1) (by omega) rfl (by omega) (by omega) (by rw [Int32.toInt32_toInt64]) ?_
    refine Ex.run 2 (pc' := 12) (L' := [.ref 1000, .int x, .ref 1658, uV]) (S' := [.int 0]) rfl ?_
    exact ex_ret rfl (Or.inl rfl) (hrs_0 hI h1 h2 h3 h4 c)
  · dsimp only
    rcases hp with hp | hp
    · exact absurd hp c
    · have hh : hnd K_Ws_spoils.2.1 4 20 = some 8 := by decide
      rw [show aT (N', U', t', i', r') e = 20 by show (t' e).1 = 20; rw [ht, hp]; rfl, hh]
      refine ⟨3, _, _, _, rfl, ?_⟩
      refine Ex.run 1 (pc' := 10) (L' := [.ref 1000, .int x, .ref 1658, uV]) (S' := [.int 1]) rfl ?_
      exact ex_ret rfl (Or.inl rfl) (hrs_1 hI h1 h2 h3 h4 hp c)
set_option maxHeartbeats 1000000 in
theorem h_trial {x w : Int32} (s : Sh N t r) (hC : Rn d 166 [.ref 1000, .int x, .int w] (N, U, t, i, r) (CRs N U t i p [20] A)) (hp : p.1 = 0 ∨ p.1 = 1) : Rn (d + 1) 403 [.ref 1000, .int x, .int w, .ref 1658] (N, U, t, i, r) (HRs N U t i p A) := by
  refine Rn.of (M := K_Ws_trial) (L := [.ref 1000, .int x, .int w, .ref 1658, uV]) rfl (by show (4 : Nat) ≤ 5; omega) rfl rfl ?_
  refine Ex.run 5 (pc' := 5) (L' := [.ref 1000, .int x, .int w, .ref 1658, uV]) (S' := [.int w, .int x, .ref 1000, .int 0, .ref 1658]) rfl ?_
  refine ex_callV (Or.inl rfl) rfl (by show (11 : Nat) < 14; omega) (by show (t 1000).1 = 11; rw [t1000 s]) rfl rfl rfl hC ?_
  rintro q ⟨N', U', t', i', r', hI, h1, h2, h3, h4, (⟨c, rfl⟩ | ⟨c, e, rfl, ht⟩)⟩
  · dsimp only
    refine Ex.run 1 (pc' := 7) (L' := [.ref 1000, .int x, .int w, .ref 1658, uV]) (S' := [.long p.2.toInt64, .int 0, .ref 1658]) rfl ?_
    refine ex_last (jn := 0) rfl (t1658 hI.1) (by omega) rfl (by omega) (by omega) (by rw [Int32.toInt32_toInt64]) ?_
    refine Ex.run 2 (pc' := 13) (L' := [.ref 1000, .int x, .int w, .ref 1658, uV]) (S' := [.int 0]) rfl ?_
    exact ex_ret rfl (Or.inl rfl) (hrs_0 hI h1 h2 h3 h4 c)
  · dsimp only
    rcases hp with hp | hp
    · exact absurd hp c
    · have hh : hnd K_Ws_trial.2.1 5 20 = some 9 := by decide
      rw [show aT (N', U', t', i', r') e = 20 by show (t' e).1 = 20; rw [ht, hp]; rfl, hh]
      refine ⟨4, _, _, _, rfl, ?_⟩
      refine Ex.run 1 (pc' := 11) (L' := [.ref 1000, .int x, .int w, .ref 1658, uV]) (S' := [.int 1]) rfl ?_
      exact ex_ret rfl (Or.inl rfl) (hrs_1 hI h1 h2 h3 h4 hp c)
set_option maxHeartbeats 1000000 in
theorem h_span {x w : Int32} (s : Sh N t r) (hC : Rn d 167 [.ref 1000, .int x, .int w] (N, U, t, i, r) (CRs N U t i p [20] A)) (hp : p.1 = 0 ∨ p.1 = 1) : Rn (d + 1) 404 [.ref 1000, .int x, .int w, .ref 1658] (N, U, t, i, r) (HRs N U t i p A) := by
  refine Rn.of (M := K_Ws_span) (L := [.ref 1000, .int x, .int w, .ref 1658, uV]) rfl (by show (4 : Nat) ≤ 5; omega) rfl rfl ?_
  refine Ex.run 5 (pc' := 5) (L' := [.ref 1000, .int x, .int w, .ref 1658, uV]) (S' := [.int w, .int x, .ref 1000, .int 0, .ref 1658]) rfl ?_
  refine ex_callV (Or.inl rfl) rfl (by show (11 : Nat) < 14; omega) (by show (t 1000).1 = 11; rw [t1000 s]) rfl rfl rfl hC ?_
  rintro q ⟨N', U', t', i', r', hI, h1, h2, h3, h4, (⟨c, rfl⟩ | ⟨c, e, rfl, ht⟩)⟩
  · dsimp only
    refine Ex.run 1 (pc' := 7) (L' := [.ref 1000, .int x, .int w, .ref 1658, uV]) (S' := [.long p.2.toInt64, .int 0, .ref 1658]) rfl ?_
    refine ex_last (jn := 0) rfl (t1658 hI.1) (by omega) rfl (by omega) (by omega) (by rw [Int32.toInt32_toInt64]) ?_
    refine Ex.run 2 (pc' := 13) (L' := [.ref 1000, .int x, .int w, .ref 1658, uV]) (S' := [.int 0]) rfl ?_
    exact ex_ret rfl (Or.inl rfl) (hrs_0 hI h1 h2 h3 h4 c)
  · dsimp only
    rcases hp with hp | hp
    · exact absurd hp c
    · have hh : hnd K_Ws_span.2.1 5 20 = some 9 := by decide
      rw [show aT (N', U', t', i', r') e = 20 by show (t' e).1 = 20; rw [ht, hp]; rfl, hh]
      refine ⟨4, _, _, _, rfl, ?_⟩
      refine Ex.run 1 (pc' := 11) (L' := [.ref 1000, .int x, .int w, .ref 1658, uV]) (S' := [.int 1]) rfl ?_
      exact ex_ret rfl (Or.inl rfl) (hrs_1 hI h1 h2 h3 h4 hp c)
set_option maxHeartbeats 1000000 in
theorem h_led {x w : Int32} (s : Sh N t r) (hC : Rn d 168 [.ref 1000, .int x, .int w] (N, U, t, i, r) (CRs N U t i p [22] A)) (hp : p.1 = 0 ∨ p.1 = 1) : Rn (d + 1) 405 [.ref 1000, .int x, .int w, .ref 1658] (N, U, t, i, r) (HRs N U t i p A) := by
  refine Rn.of (M := K_Ws_led) (L := [.ref 1000, .int x, .int w, .ref 1658, uV]) rfl (by show (4 : Nat) ≤ 5; omega) rfl rfl ?_
  refine Ex.run 5 (pc' := 5) (L' := [.ref 1000, .int x, .int w, .ref 1658, uV]) (S' := [.int w, .int x, .ref 1000, .int 0, .ref 1658]) rfl ?_
  refine ex_callV (Or.inl rfl) rfl (by show (11 : Nat) < 14; omega) (by show (t 1000).1 = 11; rw [t1000 s]) rfl rfl rfl hC ?_
  rintro q ⟨N', U', t', i', r', hI, h1, h2, h3, h4, (⟨c, rfl⟩ | ⟨c, e, rfl, ht⟩)⟩
  · dsimp only
    refine Ex.run 1 (pc' := 7) (L' := [.ref 1000, .int x, .int w, .ref 1658, uV]) (S' := [.long p.2.toInt64, .int 0, .ref 1658]) rfl ?_
    refine ex_last (jn := 0) rfl (t1658 hI.1) (by omega) rfl (by omega) (by omega) (by rw [Int32.toInt32_toInt64]) ?_
    refine Ex.run 2 (pc' := 13) (L' := [.ref 1000, .int x, .int w, .ref 1658, uV]) (S' := [.int 0]) rfl ?_
    exact ex_ret rfl (Or.inl rfl) (hrs_0 hI h1 h2 h3 h4 c)
  · dsimp only
    rcases hp with hp | hp
    · exact absurd hp c
    · have hh : hnd K_Ws_led.2.1 5 22 = some 9 := by decide
      rw [show aT (N', U', t', i', r') e = 22 by show (t' e).1 = 22; rw [ht, hp]; rfl, hh]
      refine ⟨4, _, _, _, rfl, ?_⟩
      refine Ex.run 1 (pc' := 11) (L' := [.ref 1000, .int x, .int w, .ref 1658, uV]) (S' := [.int 1]) rfl ?_
      exact ex_ret rfl (Or.inl rfl) (hrs_1 hI h1 h2 h3 h4 hp c)
set_option maxHeartbeats 1000000 in
theorem h_log {x w : Int32} (s : Sh N t r) (hC : Rn d 169 [.ref 1000, .int x, .int w] (N, U, t, i, r) (CRs N U t i p [24] A)) (hp : p.1 = 0 ∨ p.1 = 1) : Rn (d + 1) 406 [.ref 1000, .int x, .int w, .ref 1658] (N, U, t, i, r) (HRs N U t i p A) := by
  refine Rn.of (M := K_Ws_log) (L := [.ref 1000, .int x, .int w, .ref 1658, uV]) rfl (by show (4 : Nat) ≤ 5; omega) rfl rfl ?_
  refine Ex.run 5 (pc' := 5) (L' := [.ref 1000, .int x, .int w, .ref 1658, uV]) (S' := [.int w, .int x, .ref 1000, .int 0, .ref 1658]) rfl ?_
  refine ex_callV (Or.inl rfl) rfl (by show (11 : Nat) < 14; omega) (by show (t 1000).1 = 11; rw [t1000 s]) rfl rfl rfl hC ?_
  rintro q ⟨N', U', t', i', r', hI, h1, h2, h3, h4, (⟨c, rfl⟩ | ⟨c, e, rfl, ht⟩)⟩
  · dsimp only
    refine Ex.run 1 (pc' := 7) (L' := [.ref 1000, .int x, .int w, .ref 1658, uV]) (S' := [.long p.2.toInt64, .int 0, .ref 1658]) rfl ?_
    refine ex_last (jn := 0) rfl (t1658 hI.1) (by omega) rfl (by omega) (by omega) (by rw [Int32.toInt32_toInt64]) ?_
    refine Ex.run 2 (pc' := 13) (L' := [.ref 1000, .int x, .int w, .ref 1658, uV]) (S' := [.int 0]) rfl ?_
    exact ex_ret rfl (Or.inl rfl) (hrs_0 hI h1 h2 h3 h4 c)
  · dsimp only
    rcases hp with hp | hp
    · exact absurd hp c
    · have hh : hnd K_Ws_log.2.1 5 24 = some 9 := by decide
      rw [show aT (N', U', t', i', r') e = 24 by show (t' e).1 = 24; rw [ht, hp]; rfl, hh]
      refine ⟨4, _, _, _, rfl, ?_⟩
      refine Ex.run 1 (pc' := 11) (L' := [.ref 1000, .int x, .int w, .ref 1658, uV]) (S' := [.int 1]) rfl ?_
      exact ex_ret rfl (Or.inl rfl) (hrs_1 hI h1 h2 h3 h4 hp c)
end HELP
