/-! ===== heaps: what stores and makings do to the picture; reads and writes ===== -/
theorem u_tbl : ((List.range 13).all fun c => (u_ws (CNn c) (TF c) (nF c)).all fun w => lw_tbl.contains w) = true := by decide +kernel
theorem u_words {c : Nat} (hc : c < 13) : ∀ w ∈ u_ws (CNn c) (TF c) (nF c), w ∈ lw_tbl := by
  intro w hw
  have h1 := List.all_eq_true.mp u_tbl c (List.mem_range.mpr hc)
  exact List.contains_iff_mem.mp (List.all_eq_true.mp h1 w hw)
theorem u_on {l : Launch} {s0 : State} {D : va_G} {ρ : Nat → Nat} {z : Value} (G : Gho l s0 D ρ z) {s : State} (hW : s0.WarmedH s.vm) {c : Nat} (hc : c < 13) (a' : Array Value) : ∀ w ∈ u_ws (CNn c) (TF c) (nF c), w.before a' s = true := by
  intro w hw
  refine word_on G hW (u_words hc w hw) ?_ a'
  obtain ⟨k, -, rfl⟩ := List.mem_map.mp hw
  unfold u_lay
  by_cases h9 : (TF c k).2.2.2 = true
  · rw [if_pos h9]; rfl
  · rw [if_neg h9]; rfl
theorem rho_inj {l : Launch} {s0 : State} {D : va_G} {ρ : Nat → Nat} {z : Value} (G : Gho l s0 D ρ z) {a b : Nat} (ha : 1000 ≤ a) (h : ρ b = ρ a) : b = a := by
  have h1 := G.1.2.1 a ha
  by_cases hb : 1000 ≤ b
  · have h2 := G.1.2.1 b hb
    omega
  · have h2 := G.1.2.2 b (by omega)
    omega
theorem cel_same {s0 : State} {D : va_G} {ρ : Nat → Nat} {z : Value} {h h' : aH} {H H' : Heap} {b : Nat} (hT : aT h' b = aT h b) (hL : aL h' b = aL h b) (hI : ∀ k, aI h' b k = aI h b k) (hR : ∀ k, aR h' b k = aR h b k) (he : H'[ρ b]? = H[ρ b]?) (hc : celR s0 D ρ z h H b) : celR s0 D ρ z h' H' b := by
  have hf : ∀ c k, fV h' b c k = fV h b c k := fun c k => by unfold fV; rw [hI, hR]
  have hv : ∀ k, aV h' b k = aV h b k := fun k => by unfold aV; rw [hT, hI, hR]
  unfold celR at hc ⊢
  simp only [hT, hL, hf, hv]
  obtain ⟨c1, c2, c3, c4⟩ := hc
  refine ⟨fun h1 => ?_, fun h1 => ?_, fun h1 h2 => ?_, fun h1 h2 => ?_⟩
  · obtain ⟨cell, q1, q2⟩ := c1 h1
    exact ⟨cell, by rw [he]; exact q1, q2⟩
  · obtain ⟨⟨cell, q1, q2⟩, ⟨cf, k, i, f, cell2, w1, w2, w3, w4⟩, ⟨cf', k', i', f', cell3, x1, x2, x3, x4⟩⟩ := c2 h1
    exact ⟨⟨cell, by rw [he]; exact q1, q2⟩, ⟨cf, k, i, f, cell2, w1, w2, by rw [he]; exact w3, w4⟩, ⟨cf', k', i', f', cell3, x1, x2, by rw [he]; exact x3, x4⟩⟩
  · obtain ⟨cell, q1, q2⟩ := c3 h1 h2
    exact ⟨cell, by rw [he]; exact q1, q2⟩
  · obtain ⟨cell, q1, q2⟩ := c4 h1 h2
    exact ⟨cell, by rw [he]; exact q1, q2⟩
theorem rel_upd {l : Launch} {s0 : State} {D : va_G} {ρ : Nat → Nat} {z : Value} (G : Gho l s0 D ρ z) {h h' : aH} {H H' : Heap} {a : Nat} (hR : RelH s0 D ρ z h H) (ha : 1000 ≤ a) (hN : aN h' = aN h) (hT : ∀ b, aT h' b = aT h b) (hL : ∀ b, aL h' b = aL h b)
    (hI : ∀ b k, b ≠ a → aI h' b k = aI h b k) (hR2 : ∀ b k, b ≠ a → aR h' b k = aR h b k) (hz : H'.size = H.size) (ho : ∀ q : Nat, q ≠ ρ a → H'[q]? = H[q]?) (hcel : celR s0 D ρ z h' H' a) : RelH s0 D ρ z h' H' := by
  obtain ⟨r1, r2, r3, r4, r5, r6⟩ := hR
  have hra := G.1.2.1 a ha
  refine ⟨by rw [hz, hN]; exact r1, by rw [hN]; exact r2, fun q hq => by rw [ho q (by omega)]; exact r3 q hq, by rw [hT]; exact r4, fun b hb => by rw [hT]; exact r5 b (by rw [← hN]; exact hb), fun b hb => ?_⟩
  by_cases hba : b = a
  · rw [hba]; exact hcel
  · exact cel_same (hT b) (hL b) (fun k => hI b k hba) (fun k => hR2 b k hba) (ho _ (fun e => hba (rho_inj G ha e))) (r6 b (by rw [← hN]; exact hb))
theorem rel_grow {l : Launch} {s0 : State} {D : va_G} {ρ : Nat → Nat} {z : Value} (G : Gho l s0 D ρ z) {h h' : aH} {H H' : Heap} (k : Nat) (hR : RelH s0 D ρ z h H) (hN : aN h' = aN h + k) (hT : ∀ b, b < aN h → aT h' b = aT h b) (hL : ∀ b, b < aN h → aL h' b = aL h b)
    (hI : ∀ b j, b < aN h → aI h' b j = aI h b j) (hR2 : ∀ b j, b < aN h → aR h' b j = aR h b j) (hz : H'.size = H.size + k) (ho : ∀ q : Nat, q < H.size → H'[q]? = H[q]?) (hfar : ∀ b, aN h + k ≤ b → aT h' b = 999) (hnew : ∀ b, aN h ≤ b → b < aN h + k → celR s0 D ρ z h' H' b) : RelH s0 D ρ z h' H' := by
  obtain ⟨r1, r2, r3, r4, r5, r6⟩ := hR
  refine ⟨by omega, by omega, fun q hq => by rw [ho q (by omega)]; exact r3 q hq, by rw [hT 999 (by omega)]; exact r4, fun b hb => hfar b (by omega), fun b hb => ?_⟩
  by_cases hbn : b < aN h
  · have hlt : ρ b < H.size := by
      by_cases hb2 : 1000 ≤ b
      · have := G.1.2.1 b hb2
        omega
      · have := G.1.2.2 b (by omega)
        omega
    exact cel_same (hT b hbn) (hL b hbn) (fun j => hI b j hbn) (fun j => hR2 b j hbn) (ho _ hlt) (r6 b hbn)
  · exact hnew b (by omega) (by omega)
theorem rel_lt {s0 : State} {D : va_G} {ρ : Nat → Nat} {z : Value} {h : aH} {H : Heap} (hR : RelH s0 D ρ z h H) {a : Nat} (ha : aT h a ≠ 999) : a < aN h := Nat.lt_of_not_le fun h1 => ha (hR.2.2.2.2.1 a h1)
theorem rel_n999 {s0 : State} {D : va_G} {ρ : Nat → Nat} {z : Value} {h : aH} {H : Heap} (hR : RelH s0 D ρ z h H) {a : Nat} (ha : aT h a ≠ 999) : a ≠ 999 := fun e => ha (by rw [e]; exact hR.2.2.2.1)
/-- the runs' hypothesis: from the configuration the machine comes to Q -/
def KC (p : Program) (l : Launch) (e : Env) (R : Room) (s : State) (m : MethodId) (args : Array Value) (below : List Frame) (meth : Method) (c : Code) (Q : State → Prop) (s0 : State) (D : va_G) (ρ : Nat → Nat) (z : Value) (nL n0 u0 : Nat) (pc : Nat) (L S : List Value) (h : aH) : Prop :=
  ∀ (H : Heap) (locs : List Loc), RelH s0 D ρ z h H → (∀ q ∈ locs, s0.heap.size ≤ q.base) → KL p l e R s m args below meth c H locs (aN h - n0) (aU h - u0) Q ρ z nL pc L S
theorem k2_put {cell : Cell} {N : Nat} {iS : Nat → Nat} {V V' : Nat → Value} {k : Nat} {v : Value} (h : ∀ j, j < N → cell.slots[iS j]? = some (V j)) (hap : ∀ a b, a < N → b < N → a ≠ b → iS a ≠ iS b) (hk : k < N) (hv : V' k = v) (ho : ∀ j, j ≠ k → V' j = V j) : ∀ j, j < N → (cell.setSlot (iS k) v).slots[iS j]? = some (V' j) := by
  intro j hj
  by_cases hjk : j = k
  · subst hjk
    simp [Cell.setSlot, Array.getElem?_setIfInBounds, (Array.getElem?_eq_some_iff.mp (h j hj)).1, hv]
  · simp [Cell.setSlot, Array.getElem?_setIfInBounds, hap k j hk hj (Ne.symm hjk), h j hj, ho j hjk]
theorem arr_put {cell : Cell} {N : Nat} {V V' : Nat → Value} {k : Nat} {v : Value} (hs : cell.slots.size = N) (h : ∀ j, j < N → cell.slots[j]? = some (V j)) (hk : k < N) (hv : V' k = v) (ho : ∀ j, j ≠ k → V' j = V j) : ∀ j, j < N → (cell.setSlot k v).slots[j]? = some (V' j) := by
  intro j hj
  by_cases hjk : j = k
  · subst hjk
    simp [Cell.setSlot, Array.getElem?_setIfInBounds, hs, hj, hv]
  · simp [Cell.setSlot, Array.getElem?_setIfInBounds, Ne.symm hjk, h j hj, ho j hjk]
theorem nm_tbl : ((List.range 13).all fun c => (List.range (nF c)).all fun a => (List.range (nF c)).all fun b => a == b || decide ((TF c a).2.1 ≠ (TF c b).2.1)) = true := by decide +kernel
theorem nm_ap {c : Nat} (hc : c < 13) : ∀ a, a < nF c → ∀ b, b < nF c → a ≠ b → (TF c a).2.1 ≠ (TF c b).2.1 := by
  intro a ha b hb hab
  have h1 := List.all_eq_true.mp (List.all_eq_true.mp (List.all_eq_true.mp nm_tbl c (List.mem_range.mpr hc)) a (List.mem_range.mpr ha)) b (List.mem_range.mpr hb)
  simp only [Bool.or_eq_true, beq_iff_eq, decide_eq_true_eq] at h1
  exact h1.resolve_left hab
/-- a field's type by its kind: an int, a boolean, or a reference -/
noncomputable def fTy (c k : Nat) : FieldType := (parseFieldDescriptor (TF c k).2.2.1).getD .int
theorem ty_tbl : ((List.range 13).all fun c => (List.range (nF c)).all fun k => decide (parseFieldDescriptor (TF c k).2.2.1 = some (fTy c k)) && (match fK c k with | 0 => decide (fTy c k = .int) | 2 => decide (fTy c k = .boolean) | 1 => (fTy c k).isReference | _ => false)) = true := by decide +kernel
theorem ty_ok {c k : Nat} (hc : c < 13) (hk : k < nF c) : parseFieldDescriptor (TF c k).2.2.1 = some (fTy c k) ∧ (fK c k = 0 → fTy c k = .int) ∧ (fK c k = 2 → fTy c k = .boolean) ∧ (fK c k = 1 → (fTy c k).isReference = true) := by
  have h1 := List.all_eq_true.mp (List.all_eq_true.mp ty_tbl c (List.mem_range.mpr hc)) k (List.mem_range.mpr hk)
  simp only [Bool.and_eq_true, decide_eq_true_eq] at h1
  refine ⟨h1.1, fun h => ?_, fun h => ?_, fun h => ?_⟩ <;> · have h2 := h1.2; rw [h] at h2; simpa using h2
section HEAPS
variable {p : Program} {l : Launch} {e : Env} {R : Room} {s : State} {m : MethodId} {args : Array Value} {below : List Frame} {meth : Method} {c : Code} {H : Heap} {locs : List Loc} {cells slots : Nat} {Q : State → Prop}
variable {s0 : State} {D : va_G} {ρ : Nat → Nat} {z : Value} {cc : ByteArray} {own : String} {ini : Bool} {pcs : List Nat} {r : Nat × Instr × Nat × Nat} {L S : List Value} {nL n0 u0 : Nat}
theorem KC.go {pc pc' : Nat} {h : aH} (e9 : pc = pc') (k : KC p l e R s m args below meth c Q s0 D ρ z nL n0 u0 pc L S h) : KC p l e R s m args below meth c Q s0 D ρ z nL n0 u0 pc' L S h := e9 ▸ k
theorem u_apt (G : Gho l s0 D ρ z) (hW : s0.WarmedH s.vm) {t : Nat} (ht : t < 13) : ∀ x y, x < nF t → y < nF t → x ≠ y → D.2 t x ≠ D.2 t y := by
  intro x y hx hy hne
  obtain ⟨hS, -⟩ := u_Kn_moved hW.alike (G.2.2.2.2.1 t ht)
  obtain ⟨_, _, _, fa, hia, ea⟩ := hS x hx
  obtain ⟨_, _, _, fb, hib, eb⟩ := hS y hy
  rw [← ea, ← eb]
  have hts := u_on G hW ht (#[] : Array Value)
  refine u_apart (u_lays hts (fun _ h => h) hx) (u_lays hts (fun _ h => h) hy) hia hib ?_
  rw [(State.fieldFound?_type hia (ty_ok ht hx).1).1, (State.fieldFound?_type hib (ty_ok ht hy).1).1]
  exact nm_ap ht x hx y hy hne
set_option maxHeartbeats 4000000 in
theorem ss_getfield (G : Gho l s0 D ρ z) (hW : s0.WarmedH s.vm) (hx : p.tables.exec = Jvm.exec) (hb : c.code = cc) (hown : s.vm.findClass own = some m.cls) {k9 nx tg a : Nat} {cst : Int32} {h : aH} (hok : okE cc own ini pcs (.getfield k9, cst, nx, tg) r = true) (ht : aT h a = tg) (hk9 : k9 < nF tg)
    (k : KC p l e R s m args below meth c Q s0 D ρ z nL n0 u0 ((pcs[nx]?).getD 0) L (fV h a tg k9 :: S) h) : KC p l e R s m args below meth c Q s0 D ρ z nL n0 u0 r.1 L (.ref a :: S) h := by
  obtain ⟨pc, raw, len, lk⟩ := r
  simp only [okE, Bool.and_eq_true, decide_eq_true_eq] at hok
  obtain ⟨hd, ⟨hn, rfl⟩, hr⟩ := hok
  dsimp only at hd hn ⊢
  split at hr
  · rename_i q hq
    simp only [Bool.and_eq_true, decide_eq_true_eq] at hr
    obtain ⟨⟨rfl, rfl⟩, hq2⟩ := hr
    have hlink := word_on G hW (subl_mem _ _ FL_ok _ (List.mem_map_of_mem (List.mem_of_getElem? hq))) rfl args
    simp only [flW, hq2] at hlink
    intro H locs hR hlo ls hl
    have k2 := KC.go hn k H locs hR hlo ls hl
    simp only [List.map_cons] at k2 ⊢
    have htg : tg < 14 := by
      rcases Nat.lt_or_ge tg 14 with h1 | h1
      · exact h1
      · exfalso
        have : nF tg = 0 := by simp [nF, List.getElem?_eq_none (show ([9,6,6,7,3,3,6,17,1,5,7,15,29,2] : List Nat).length ≤ tg by simpa using h1)]
        omega
    have ha999 : aT h a ≠ 999 := by omega
    have hc9 := hR.2.2.2.2.2 a (rel_lt hR ha999)
    have hcv : cvV ρ z (.ref a) = .ref (ρ a) := if_neg (rel_n999 hR ha999)
    rw [hcv]
    by_cases h13 : tg < 13
    · obtain ⟨cell, q1, q2, q3, q4⟩ := hc9.1 (by rw [ht]; exact h13)
      rw [ht] at q2 q4
      obtain ⟨hS, hfc, kC, hkC, hkind⟩ := u_Kn_moved hW.alike (G.2.2.2.2.1 tg h13)
      obtain ⟨cf, kf, fi, f, hi, hsl⟩ := hS k9 hk9
      have hdecl : (TF tg k9).1 = (TF tg k9).1 := rfl
      refine W.getf hx hb hown hlink hi (u_facts hfc hkC (u_lays (u_on G hW h13 args) (fun _ h => h) hk9) hi).1 q1 (by rw [q3]; exact fun h => by cases h) (v := cvV ρ z (fV h a tg k9)) (by rw [hsl]; exact q4 k9 hk9) rfl rfl hd k2
    · have e13 : tg = 13 := by omega
      subst e13
      obtain ⟨-, w1, w2⟩ := hc9.2.1 ht
      have hk2 : k9 = 0 ∨ k9 = 1 := by
        have : nF 13 = 2 := by decide
        omega
      rcases hk2 with rfl | rfl
      · obtain ⟨cf, kk, i, f, cell, x1, x2, x3, x4, x5, -⟩ := va_OF.moved hW.alike w1
        exact W.getf hx hb hown hlink x1 x2 x3 x4 x5 rfl rfl hd k2
      · obtain ⟨cf, kk, i, f, cell, x1, x2, x3, x4, x5, -⟩ := va_OF.moved hW.alike w2
        exact W.getf hx hb hown hlink x1 x2 x3 x4 x5 rfl rfl hd k2
  · cases hr
set_option maxHeartbeats 4000000 in
theorem ss_putfield (G : Gho l s0 D ρ z) (hW : s0.WarmedH s.vm) (hx : p.tables.exec = Jvm.exec) (hb : c.code = cc) (hown : s.vm.findClass own = some m.cls) (hini : ini = true → meth.name = "<init>") {k9 nx tg a : Nat} {cst : Int32} {h h' : aH} {v : Value} (hok : okE cc own ini pcs (.putfield k9, cst, nx, tg) r = true) (ht : aT h a = tg) (h13 : tg < 13) (ha : 1000 ≤ a) (hk9 : k9 < nF tg)
    (hv : narrow (fTy tg k9) (cvV ρ z v) = cvV ρ z v) (hf : fits (fTy tg k9) (cvV ρ z v) = true)
    (hN : aN h' = aN h) (hU : aU h' = aU h) (hT : ∀ b, aT h' b = aT h b) (hL : ∀ b, aL h' b = aL h b) (hI : ∀ b k, b ≠ a → aI h' b k = aI h b k) (hR2 : ∀ b k, b ≠ a → aR h' b k = aR h b k) (hfv : fV h' a tg k9 = v) (hfo : ∀ j, j ≠ k9 → fV h' a tg j = fV h a tg j)
    (k : KC p l e R s m args below meth c Q s0 D ρ z nL n0 u0 ((pcs[nx]?).getD 0) L S h') : KC p l e R s m args below meth c Q s0 D ρ z nL n0 u0 r.1 L (v :: .ref a :: S) h := by
  obtain ⟨pc, raw, len, lk⟩ := r
  simp only [okE, Bool.and_eq_true, decide_eq_true_eq] at hok
  obtain ⟨hd, ⟨⟨hn, rfl⟩, hr⟩, hfin⟩ := hok
  dsimp only at hd hn ⊢
  split at hr
  · rename_i q hq
    simp only [Bool.and_eq_true, decide_eq_true_eq] at hr
    obtain ⟨⟨rfl, rfl⟩, hq2⟩ := hr
    have hlink := word_on G hW (subl_mem _ _ FL_ok _ (List.mem_map_of_mem (List.mem_of_getElem? hq))) rfl args
    simp only [flW, hq2] at hlink
    intro H locs hR hlo ls hl
    have ha999 : aT h a ≠ 999 := by omega
    have hc9 := hR.2.2.2.2.2 a (rel_lt hR ha999)
    have hcv : cvV ρ z (.ref a) = .ref (ρ a) := if_neg (rel_n999 hR ha999)
    obtain ⟨cell, q1, q2, q3, q4⟩ := hc9.1 (by rw [ht]; exact h13)
    rw [ht] at q2 q4
    obtain ⟨hS, hfc, kC, hkC, hkind⟩ := u_Kn_moved hW.alike (G.2.2.2.2.1 tg h13)
    obtain ⟨cf, kf, fi, f, hi, hsl⟩ := hS k9 hk9
    have hts := u_on G hW h13 args
    have hst := (u_facts hfc hkC (u_lays hts (fun _ h => h) hk9) hi).1
    have hfit := u_fits hfc hkC hkind (u_lays hts (fun _ h => h) hk9) hi (ty_ok h13 hk9).1 hv hf
    have hmore : hasFlag f.accessFlags Acc.final = false ∨ (m.cls = cf ∧ meth.name = "<init>") := by
      have hlay := hts _ (u_in_lay hk9)
      unfold u_lay at hlay
      by_cases h9 : (TF tg k9).2.2.2 = true
      · rw [if_pos h9] at hlay
        right
        simp only [Bool.or_eq_true, Bool.and_eq_true, decide_eq_true_eq] at hfin
        rcases hfin with hfin | ⟨h1, h2⟩
        · rw [h9] at hfin; cases hfin
        · refine ⟨?_, hini h1⟩
          have h3 : (TF tg k9).1 = CNn tg := by
            have h9 : ((List.range 13).all fun c => (List.range (nF c)).all fun k => decide ((TF c k).1 = CNn c)) = true := by decide +kernel
            exact of_decide_eq_true (List.all_eq_true.mp (List.all_eq_true.mp h9 tg (List.mem_range.mpr h13)) k9 (List.mem_range.mpr hk9))
          obtain ⟨_, _, c', _, _, _, -, -, hf', -, -, -, hown2, -⟩ := Cond.laysFinal_spec hlay
          have e1 : c' = cf := by have := hi.symm.trans hf'; simp at this; exact this.1.symm
          rw [h3] at hown2
          rw [← e1]
          rw [h2] at hown
          exact Option.some.inj (hown.symm.trans hown2)
      · rw [if_neg h9] at hlay
        left
        exact (u_store hfc hkC hkind hlay hi (ty_ok h13 hk9).1 hv hf).1
    have hra := G.1.2.1 a ha
    have hlt : ρ a < H.size := (Array.getElem?_eq_some_iff.mp q1).1
    have hslot : f.slot < cell.slots.size := by rw [hsl]; exact k2_hasslot (q4 k9 hk9)
    simp only [List.map_cons]
    rw [hcv]
    refine W.putf hx hb hown hlink hi hst hmore q1 (by rw [q3]; exact fun h => by cases h) hslot hfit.1 (by rw [q2, q3]; exact hfit.2) rfl rfl hd ?_
    have hrel : RelH s0 D ρ z h' (H.setIfInBounds (ρ a) (cell.setSlot f.slot (cvV ρ z v))) := by
      refine rel_upd G hR ha hN hT hL hI hR2 (by simp) (fun q hq => by simp [Array.getElem?_setIfInBounds, Ne.symm hq]) ?_
      have hT9 : aT h' a = tg := by rw [hT]; exact ht
      refine ⟨fun _ => ⟨_, by simp [Array.getElem?_setIfInBounds, hlt]; rfl, ?_, ?_, ?_⟩, fun h9 => ?_, fun h9 _ => ?_, fun h9 _ => ?_⟩
      · rw [hT9]; exact q2
      · exact q3
      · rw [hT9, hsl]
        exact k2_put (V := fun j => cvV ρ z (fV h a tg j)) q4 (u_apt G hW h13) hk9 (by rw [hfv]) (fun j hj => by rw [hfo j hj])
      · rw [hT9] at h9; omega
      · rw [hT9] at h9; omega
      · rw [hT9] at h9; omega
    have k2 := KC.go hn k _ (locs ++ [⟨ρ a, f.slot⟩]) hrel (fun q hq => by
      rcases List.mem_append.mp hq with h9 | h9
      · exact hlo q h9
      · rw [List.mem_singleton] at h9
        rw [h9]
        show s0.heap.size ≤ ρ a
        omega) ls hl
    rw [hN, hU] at k2
    exact k2
  · cases hr
end HEAPS
