/-! ===== arrays: reads and writes ===== -/
section ARRS
variable {p : Program} {l : Launch} {e : Env} {R : Room} {s : State} {m : MethodId} {args : Array Value} {below : List Frame} {meth : Method} {c : Code} {H : Heap} {locs : List Loc} {cells slots : Nat} {Q : State → Prop}
variable {s0 : State} {D : va_G} {ρ : Nat → Nat} {z : Value} {cc : ByteArray} {own : String} {ini : Bool} {pcs : List Nat} {r : Nat × Instr × Nat × Nat} {L S : List Value} {nL n0 u0 : Nat}
theorem arr_at {h : aH} {H : Heap} (hR : RelH s0 D ρ z h H) {a : Nat} (h1 : 100 ≤ aT h a) (h2 : aT h a ≤ 105) : cvV ρ z (.ref a) = .ref (ρ a) ∧ a < aN h ∧ ∃ cell : Cell, H[ρ a]? = some cell ∧ s0.isArrayOf cell (aTy (aT h a)) ∧ cell.vm ≠ .unknown ∧ cell.slots.size = aL h a ∧ (∀ k, k < aL h a → cell.slots[k]? = some (cvV ρ z (aV h a k))) ∧ (1000 ≤ a → cell.vm = .none ∧ s0.vm.findClass ("[" ++ (aTy (aT h a)).toString) = some cell.cls) := by
  have ha999 : aT h a ≠ 999 := by omega
  exact ⟨if_neg (rel_n999 hR ha999), rel_lt hR ha999, (hR.2.2.2.2.2 a (rel_lt hR ha999)).2.2.2 h1 h2⟩
theorem idx_ok {i : Int32} {n : Nat} (h : ¬ i < 0 ∧ i.toNatClampNeg < n) : ¬ (i < 0 ∨ n ≤ i.toNatClampNeg) := fun h9 => h9.elim h.1 (fun h8 => absurd h.2 (Nat.not_lt.mpr h8))
set_option maxHeartbeats 4000000 in
theorem ss_iaload (G : Gho l s0 D ρ z) (hW : s0.WarmedH s.vm) (hx : p.tables.exec = Jvm.exec) (hb : c.code = cc) {nx tg a : Nat} {i cst : Int32} {h : aH} (hok : okE cc own ini pcs (.iaload, cst, nx, tg) r = true) (ht : aT h a = 100) (hi : ¬ i < 0 ∧ i.toNatClampNeg < aL h a)
    (k : KC p l e R s m args below meth c Q s0 D ρ z nL n0 u0 ((pcs[nx]?).getD 0) L (.int (aI h a i.toNatClampNeg) :: S) h) : KC p l e R s m args below meth c Q s0 D ρ z nL n0 u0 r.1 L (.int i :: .ref a :: S) h := by
  obtain ⟨pc, raw, len, lk⟩ := r
  simp only [okE, Bool.and_eq_true, decide_eq_true_eq] at hok
  obtain ⟨hd, ⟨hn, rfl⟩, rfl⟩ := hok
  intro H locs hR hlo ls hl
  have k2 := KC.go hn k H locs hR hlo ls hl
  obtain ⟨hcv, -, cell, q1, q2, q3, q4, q5, -⟩ := arr_at hR (a := a) (by omega) (by omega)
  have h5 := q5 _ hi.2
  have e1 : aV h a i.toNatClampNeg = .int (aI h a i.toNatClampNeg) := by unfold aV; rw [if_pos (by omega)]
  rw [e1] at h5
  simp only [List.map_cons, hcv] at k2 ⊢
  refine W.iald hx hb q1 (State.isArrayOf_alike hW.alike (by rw [ht] at q2; exact q2)) q3 (by rw [q4]; exact idx_ok hi) h5 rfl rfl hd k2
set_option maxHeartbeats 4000000 in
theorem ss_baload (G : Gho l s0 D ρ z) (hW : s0.WarmedH s.vm) (hx : p.tables.exec = Jvm.exec) (hb : c.code = cc) {nx tg a : Nat} {i cst : Int32} {h : aH} (hok : okE cc own ini pcs (.baload, cst, nx, tg) r = true) (ht : aT h a = 101 ∨ aT h a = 102) (hi : ¬ i < 0 ∧ i.toNatClampNeg < aL h a)
    (k : KC p l e R s m args below meth c Q s0 D ρ z nL n0 u0 ((pcs[nx]?).getD 0) L (.int (aI h a i.toNatClampNeg) :: S) h) : KC p l e R s m args below meth c Q s0 D ρ z nL n0 u0 r.1 L (.int i :: .ref a :: S) h := by
  obtain ⟨pc, raw, len, lk⟩ := r
  simp only [okE, Bool.and_eq_true, decide_eq_true_eq] at hok
  obtain ⟨hd, ⟨hn, rfl⟩, rfl⟩ := hok
  intro H locs hR hlo ls hl
  have k2 := KC.go hn k H locs hR hlo ls hl
  obtain ⟨hcv, -, cell, q1, q2, q3, q4, q5, -⟩ := arr_at hR (a := a) (by omega) (by omega)
  have h5 := q5 _ hi.2
  have e1 : aV h a i.toNatClampNeg = .int (aI h a i.toNatClampNeg) := by unfold aV; rw [if_pos (by omega)]
  rw [e1] at h5
  simp only [List.map_cons, hcv] at k2 ⊢
  rcases ht with ht | ht
  · refine W.bald hx hb q1 (State.isArrayOf_alike hW.alike (by rw [ht] at q2; exact q2)) q3 (by rw [q4]; exact idx_ok hi) h5 rfl rfl hd k2
  · refine W.zald hx hb q1 (State.isArrayOf_alike hW.alike (by rw [ht] at q2; exact q2)) q3 (by rw [q4]; exact idx_ok hi) h5 rfl rfl hd k2
set_option maxHeartbeats 4000000 in
theorem ss_laload (G : Gho l s0 D ρ z) (hW : s0.WarmedH s.vm) (hx : p.tables.exec = Jvm.exec) (hb : c.code = cc) {nx tg a : Nat} {i cst : Int32} {h : aH} (hok : okE cc own ini pcs (.laload, cst, nx, tg) r = true) (ht : aT h a = 103) (hi : ¬ i < 0 ∧ i.toNatClampNeg < aL h a)
    (k : KC p l e R s m args below meth c Q s0 D ρ z nL n0 u0 ((pcs[nx]?).getD 0) L (.long (aI h a i.toNatClampNeg).toInt64 :: S) h) : KC p l e R s m args below meth c Q s0 D ρ z nL n0 u0 r.1 L (.int i :: .ref a :: S) h := by
  obtain ⟨pc, raw, len, lk⟩ := r
  simp only [okE, Bool.and_eq_true, decide_eq_true_eq] at hok
  obtain ⟨hd, ⟨hn, rfl⟩, rfl⟩ := hok
  intro H locs hR hlo ls hl
  have k2 := KC.go hn k H locs hR hlo ls hl
  obtain ⟨hcv, -, cell, q1, q2, q3, q4, q5, -⟩ := arr_at hR (a := a) (by omega) (by omega)
  have h5 := q5 _ hi.2
  have e1 : aV h a i.toNatClampNeg = .long (aI h a i.toNatClampNeg).toInt64 := by unfold aV; rw [if_neg (by omega), if_pos ht]
  rw [e1] at h5
  simp only [List.map_cons, hcv] at k2 ⊢
  refine W.lald hx hb q1 (State.isArrayOf_alike hW.alike (by rw [ht] at q2; exact q2)) q3 (by rw [q4]; exact idx_ok hi) h5 rfl rfl hd k2
set_option maxHeartbeats 4000000 in
theorem ss_aaload (G : Gho l s0 D ρ z) (hW : s0.WarmedH s.vm) (hx : p.tables.exec = Jvm.exec) (hb : c.code = cc) {nx tg a : Nat} {i cst : Int32} {h : aH} (hok : okE cc own ini pcs (.aaload, cst, nx, tg) r = true) (ht : aT h a = 104 ∨ aT h a = 105) (hi : ¬ i < 0 ∧ i.toNatClampNeg < aL h a)
    (k : KC p l e R s m args below meth c Q s0 D ρ z nL n0 u0 ((pcs[nx]?).getD 0) L (rV (aR h a i.toNatClampNeg) :: S) h) : KC p l e R s m args below meth c Q s0 D ρ z nL n0 u0 r.1 L (.int i :: .ref a :: S) h := by
  obtain ⟨pc, raw, len, lk⟩ := r
  simp only [okE, Bool.and_eq_true, decide_eq_true_eq] at hok
  obtain ⟨hd, ⟨hn, rfl⟩, rfl⟩ := hok
  intro H locs hR hlo ls hl
  have k2 := KC.go hn k H locs hR hlo ls hl
  obtain ⟨hcv, -, cell, q1, q2, q3, q4, q5, -⟩ := arr_at hR (a := a) (by omega) (by omega)
  have h5 := q5 _ hi.2
  have e1 : aV h a i.toNatClampNeg = rV (aR h a i.toNatClampNeg) := by unfold aV; rw [if_neg (by omega), if_neg (by omega)]
  rw [e1] at h5
  simp only [List.map_cons, hcv] at k2 ⊢
  rcases ht with ht | ht
  · refine W.aald hx hb q1 (State.isArrayOf_alike hW.alike q2) (by rw [ht]; rfl) q3 (by rw [q4]; exact idx_ok hi) h5 rfl rfl hd k2
  · refine W.aald hx hb q1 (State.isArrayOf_alike hW.alike q2) (by rw [ht]; rfl) q3 (by rw [q4]; exact idx_ok hi) h5 rfl rfl hd k2
set_option maxHeartbeats 4000000 in
theorem ss_arraylength (G : Gho l s0 D ρ z) (hW : s0.WarmedH s.vm) (hx : p.tables.exec = Jvm.exec) (hb : c.code = cc) {nx tg a : Nat} {cst : Int32} {h : aH} (hok : okE cc own ini pcs (.arraylength, cst, nx, tg) r = true) (ht : 100 ≤ aT h a ∧ aT h a ≤ 105)
    (k : KC p l e R s m args below meth c Q s0 D ρ z nL n0 u0 ((pcs[nx]?).getD 0) L (.int (nI (aL h a)) :: S) h) : KC p l e R s m args below meth c Q s0 D ρ z nL n0 u0 r.1 L (.ref a :: S) h := by
  obtain ⟨pc, raw, len, lk⟩ := r
  simp only [okE, Bool.and_eq_true, decide_eq_true_eq] at hok
  obtain ⟨hd, ⟨hn, rfl⟩, rfl⟩ := hok
  intro H locs hR hlo ls hl
  have k2 := KC.go hn k H locs hR hlo ls hl
  obtain ⟨hcv, -, cell, q1, q2, q3, q4, q5, -⟩ := arr_at hR (a := a) ht.1 ht.2
  simp only [List.map_cons, hcv] at k2 ⊢
  exact W.alen hx hb q1 (State.isArrayOf_alike hW.alike q2) (n := nI (aL h a)) (by rw [q4]; rfl) rfl rfl hd k2
/-- an element was written -/
theorem rel_put (G : Gho l s0 D ρ z) {h h' : aH} {H H' : Heap} {a j : Nat} {cell : Cell} {v : Value} (hR : RelH s0 D ρ z h H) (h1 : 100 ≤ aT h a) (h2 : aT h a ≤ 105) (ha : 1000 ≤ a) (hc : H[ρ a]? = some cell) (hj : j < aL h a) (hN : aN h' = aN h) (hT : ∀ b, aT h' b = aT h b) (hL : ∀ b, aL h' b = aL h b)
    (hI : ∀ b k, b ≠ a → aI h' b k = aI h b k) (hR2 : ∀ b k, b ≠ a → aR h' b k = aR h b k) (hv : cvV ρ z (aV h' a j) = v) (ho : ∀ k, k ≠ j → aV h' a k = aV h a k) (e1 : H'[ρ a]? = some (cell.setSlot j v)) (e2 : H'.size = H.size) (e3 : ∀ q, q ≠ ρ a → H'[q]? = H[q]?) : RelH s0 D ρ z h' H' := by
  obtain ⟨-, -, cell', q1, q2, q3, q4, q5, q6⟩ := arr_at hR h1 h2
  cases hc.symm.trans q1
  refine rel_upd G hR ha hN hT hL hI hR2 e2 e3 ⟨fun h9 => ?_, fun h9 => ?_, fun _ h9 => ?_, fun _ _ => ⟨_, e1, ?_, ?_, ?_, ?_, ?_⟩⟩
  · rw [hT] at h9; omega
  · rw [hT] at h9; omega
  · rw [hT] at h9; omega
  · rw [hT]
    obtain ⟨w1, w2⟩ := q2
    exact ⟨w1, w2⟩
  · exact q3
  · rw [hL, k2_slotsz]; exact q4
  · rw [hL]
    exact arr_put (V := fun k => cvV ρ z (aV h a k)) q4 q5 hj hv (fun k hk => by rw [ho k hk])
  · intro h9
    rw [hT]
    exact q6 h9
theorem aV_SI {h : aH} {a j : Nat} {x : Int32} (ht : aT h a ≤ 102) : aV (aSI h a j x) a j = .int x ∧ ∀ k, k ≠ j → aV (aSI h a j x) a k = aV h a k := by
  have e1 : aT (aSI h a j x) a = aT h a := rfl
  refine ⟨?_, fun k hk => ?_⟩
  · unfold aV; rw [e1, if_pos ht]; simp [aI, aSI]
  · unfold aV; rw [e1, if_pos ht, if_pos ht]; simp [aI, aSI, hk]
set_option maxHeartbeats 4000000 in
theorem ss_iastore (G : Gho l s0 D ρ z) (hW : s0.WarmedH s.vm) (hx : p.tables.exec = Jvm.exec) (hb : c.code = cc) {nx tg a : Nat} {i x cst : Int32} {h : aH} (hok : okE cc own ini pcs (.iastore, cst, nx, tg) r = true) (ht : aT h a = 100) (ha : 1000 ≤ a) (hi : ¬ i < 0 ∧ i.toNatClampNeg < aL h a)
    (k : KC p l e R s m args below meth c Q s0 D ρ z nL n0 u0 ((pcs[nx]?).getD 0) L S (aSI h a i.toNatClampNeg x)) : KC p l e R s m args below meth c Q s0 D ρ z nL n0 u0 r.1 L (.int x :: .int i :: .ref a :: S) h := by
  obtain ⟨pc, raw, len, lk⟩ := r
  simp only [okE, Bool.and_eq_true, decide_eq_true_eq] at hok
  obtain ⟨hd, ⟨hn, rfl⟩, rfl⟩ := hok
  intro H locs hR hlo ls hl
  obtain ⟨hcv, -, cell, q1, q2, q3, q4, q5, -⟩ := arr_at hR (a := a) (by omega) (by omega)
  simp only [List.map_cons, hcv]
  have hra := G.1.2.1 a ha
  refine W.iast hx hb q1 (State.isArrayOf_alike hW.alike (by rw [ht] at q2; exact q2)) q3 (by rw [q4]; exact idx_ok hi) rfl rfl hd (fun H' e1 e2 e3 => ?_)
  obtain ⟨v1, v2⟩ := aV_SI (h := h) (a := a) (j := i.toNatClampNeg) (x := x) (by omega)
  exact KC.go hn k H' _ (rel_put G hR (by omega) (by omega) ha q1 hi.2 rfl (fun _ => rfl) (fun _ => rfl) (fun b k hb => by simp [aI, aSI, hb]) (fun _ _ _ => rfl) (by rw [v1]; rfl) v2 e1 e2 e3) (fun q hq => by
    rcases List.mem_append.mp hq with h9 | h9
    · exact hlo q h9
    · rw [List.mem_singleton] at h9
      rw [h9]
      show s0.heap.size ≤ ρ a
      omega) ls hl
set_option maxHeartbeats 4000000 in
theorem ss_bastore (G : Gho l s0 D ρ z) (hW : s0.WarmedH s.vm) (hx : p.tables.exec = Jvm.exec) (hb : c.code = cc) {nx tg a : Nat} {i x y cst : Int32} {h : aH} (hok : okE cc own ini pcs (.bastore, cst, nx, tg) r = true) (ht : aT h a = 101 ∧ y = x.toInt8.toInt32 ∨ aT h a = 102 ∧ (x = 0 ∨ x = 1) ∧ y = x) (ha : 1000 ≤ a) (hi : ¬ i < 0 ∧ i.toNatClampNeg < aL h a)
    (k : KC p l e R s m args below meth c Q s0 D ρ z nL n0 u0 ((pcs[nx]?).getD 0) L S (aSI h a i.toNatClampNeg y)) : KC p l e R s m args below meth c Q s0 D ρ z nL n0 u0 r.1 L (.int x :: .int i :: .ref a :: S) h := by
  obtain ⟨pc, raw, len, lk⟩ := r
  simp only [okE, Bool.and_eq_true, decide_eq_true_eq] at hok
  obtain ⟨hd, ⟨hn, rfl⟩, rfl⟩ := hok
  intro H locs hR hlo ls hl
  obtain ⟨hcv, -, cell, q1, q2, q3, q4, q5, -⟩ := arr_at hR (a := a) (by omega) (by omega)
  simp only [List.map_cons, hcv]
  have hra := G.1.2.1 a ha
  have hlo2 : ∀ q ∈ locs ++ [(⟨ρ a, i.toNatClampNeg⟩ : Loc)], s0.heap.size ≤ q.base := fun q hq => by
    rcases List.mem_append.mp hq with h9 | h9
    · exact hlo q h9
    · rw [List.mem_singleton] at h9
      rw [h9]
      show s0.heap.size ≤ ρ a
      omega
  obtain ⟨v1, v2⟩ := aV_SI (h := h) (a := a) (j := i.toNatClampNeg) (x := y) (by omega)
  rcases ht with ⟨ht, hy⟩ | ⟨ht, hy, rfl⟩
  · refine W.bast hx hb q1 (State.isArrayOf_alike hW.alike (by rw [ht] at q2; exact q2)) q3 (by rw [q4]; exact idx_ok hi) rfl rfl hd (fun H' e1 e2 e3 => ?_)
    exact KC.go hn k H' _ (rel_put G hR (by omega) (by omega) ha q1 hi.2 rfl (fun _ => rfl) (fun _ => rfl) (fun b k hb => by simp [aI, aSI, hb]) (fun _ _ _ => rfl) (by rw [v1, hy]; rfl) v2 e1 e2 e3) hlo2 ls hl
  · refine W.zast hx hb q1 (State.isArrayOf_alike hW.alike (by rw [ht] at q2; exact q2)) q3 (by rw [q4]; exact idx_ok hi) rfl rfl hd (fun H' e1 e2 e3 => ?_)
    exact KC.go hn k H' _ (rel_put G hR (by omega) (by omega) ha q1 hi.2 rfl (fun _ => rfl) (fun _ => rfl) (fun b k hb => by simp [aI, aSI, hb]) (fun _ _ _ => rfl) (by rw [v1]; rcases hy with rfl | rfl <;> rfl) v2 e1 e2 e3) hlo2 ls hl
set_option maxHeartbeats 4000000 in
theorem ss_lastore (G : Gho l s0 D ρ z) (hW : s0.WarmedH s.vm) (hx : p.tables.exec = Jvm.exec) (hb : c.code = cc) {nx tg a : Nat} {i cst : Int32} {w : Int64} {h : aH} (hok : okE cc own ini pcs (.lastore, cst, nx, tg) r = true) (ht : aT h a = 103) (ha : 1000 ≤ a) (hi : ¬ i < 0 ∧ i.toNatClampNeg < aL h a) (hw : w.toInt32.toInt64 = w)
    (k : KC p l e R s m args below meth c Q s0 D ρ z nL n0 u0 ((pcs[nx]?).getD 0) L S (aSI h a i.toNatClampNeg w.toInt32)) : KC p l e R s m args below meth c Q s0 D ρ z nL n0 u0 r.1 L (.long w :: .int i :: .ref a :: S) h := by
  obtain ⟨pc, raw, len, lk⟩ := r
  simp only [okE, Bool.and_eq_true, decide_eq_true_eq] at hok
  obtain ⟨hd, ⟨hn, rfl⟩, rfl⟩ := hok
  intro H locs hR hlo ls hl
  obtain ⟨hcv, -, cell, q1, q2, q3, q4, q5, -⟩ := arr_at hR (a := a) (by omega) (by omega)
  simp only [List.map_cons, hcv]
  have hra := G.1.2.1 a ha
  have e9 : aT (aSI h a i.toNatClampNeg w.toInt32) a = 103 := ht
  refine W.last hx hb q1 (State.isArrayOf_alike hW.alike (by rw [ht] at q2; exact q2)) q3 (by rw [q4]; exact idx_ok hi) rfl rfl hd (fun H' e1 e2 e3 => ?_)
  exact KC.go hn k H' _ (rel_put G hR (by omega) (by omega) ha q1 hi.2 rfl (fun _ => rfl) (fun _ => rfl) (fun b k hb => by simp [aI, aSI, hb]) (fun _ _ _ => rfl) (by unfold aV; rw [e9]; simp [aI, aSI, hw, cvV]) (fun k hk => by unfold aV; rw [e9, ht]; simp [aI, aSI, hk]) e1 e2 e3) (fun q hq => by
    rcases List.mem_append.mp hq with h9 | h9
    · exact hlo q h9
    · rw [List.mem_singleton] at h9
      rw [h9]
      show s0.heap.size ≤ ρ a
      omega) ls hl
set_option maxHeartbeats 4000000 in
theorem ss_aastore (G : Gho l s0 D ρ z) (hW : s0.WarmedH s.vm) (hx : p.tables.exec = Jvm.exec) (hb : c.code = cc) {nx tg a b : Nat} {i cst : Int32} {h : aH} (hok : okE cc own ini pcs (.aastore, cst, nx, tg) r = true) (ht : aT h a = 105) (ha : 1000 ≤ a) (htb : aT h b = 7) (hb1 : 1000 ≤ b) (hi : ¬ i < 0 ∧ i.toNatClampNeg < aL h a)
    (k : KC p l e R s m args below meth c Q s0 D ρ z nL n0 u0 ((pcs[nx]?).getD 0) L S (aSR h a i.toNatClampNeg b)) : KC p l e R s m args below meth c Q s0 D ρ z nL n0 u0 r.1 L (.ref b :: .int i :: .ref a :: S) h := by
  obtain ⟨pc, raw, len, lk⟩ := r
  simp only [okE, Bool.and_eq_true, decide_eq_true_eq] at hok
  obtain ⟨hd, ⟨hn, rfl⟩, rfl⟩ := hok
  intro H locs hR hlo ls hl
  obtain ⟨hcv, -, cell, q1, q2, q3, q4, q5, q6⟩ := arr_at hR (a := a) (by omega) (by omega)
  have hcb : cvV ρ z (.ref b) = .ref (ρ b) := by
    show (if b = 999 then z else .ref (ρ b)) = _
    exact if_neg (by omega)
  have hbn : b < aN h := rel_lt hR (by omega)
  obtain ⟨cb, w1, w2, w3, -⟩ := (hR.2.2.2.2.2 b hbn).1 (by omega)
  rw [htb] at w2
  simp only [List.map_cons, hcv, hcb]
  have hra := G.1.2.1 a ha
  rw [ht] at q2 q6
  obtain ⟨g1, g2⟩ := q6 ha
  have e9 : aT (aSR h a i.toNatClampNeg b) a = 105 := ht
  obtain ⟨hSb, hfc, kC, hkC, hkind⟩ := u_Kn_moved hW.alike (G.2.2.2.2.1 7 (by omega))
  have ho : (Cond.arrayOver (.object "LastCatch$Sea")).before #[] s0 = true := G.2.2.2.1 _ (by decide +kernel)
  obtain ⟨comp, ca, ka, o1, o2, o3, o4, o5⟩ := Cond.arrayOver_spec ho
  have z1 : ca = cell.cls := Option.some.inj (o5.symm.trans g2)
  have z2 : comp = D.1 7 := by
    have h1 : s0.vm.findClass (CNn 7) = some (D.1 7) := (G.2.2.2.2.1 7 (by omega)).2.1
    exact Option.some.inj (o1.symm.trans h1)
  subst z2
  rw [z1] at o3
  obtain ⟨ka', k1, k2⟩ := hW.alike.2.2 _ _ o3
  refine W.aast hx hb q1 (fun q h9 => by rw [g1] at h9; cases h9) q3 k1 (by rw [k2]; exact o4) rfl hkC (by rw [q4]; exact hi) w1 (fun q h9 => by rw [w3] at h9; cases h9) (by rw [w2]; exact hkC) (by rw [w2]; exact va_asg _ _) rfl rfl hd (fun H' e1 e2 e3 => ?_)
  exact KC.go hn k H' _ (rel_put G hR (by omega) (by omega) ha q1 hi.2 rfl (fun _ => rfl) (fun _ => rfl) (fun _ _ _ => rfl) (fun b k hb => by simp [aR, aSR, hb]) (by unfold aV; rw [e9]; simp [aR, aSR, rV, show b ≠ 0 by omega]; exact hcb) (fun k hk => by unfold aV; rw [e9, ht]; simp [aR, aSR, hk]) e1 e2 e3) (fun q hq => by
    rcases List.mem_append.mp hq with h9 | h9
    · exact hlo q h9
    · rw [List.mem_singleton] at h9
      rw [h9]
      show s0.heap.size ≤ ρ a
      omega) ls hl
end ARRS
