/-! ===== new int[n][k], clone, casts, branches ===== -/
theorem outer_slots (c : ClassId) (N h0 : Nat) : ∀ i : Nat, (Jvm.Free.Multi.outerC c N h0 i).cls = c ∧ (Jvm.Free.Multi.outerC c N h0 i).vm = .none ∧ (Jvm.Free.Multi.outerC c N h0 i).slots.size = N ∧ ∀ j, j < N → (Jvm.Free.Multi.outerC c N h0 i).slots[j]? = some (if j < i then .ref (h0 + 1 + j) else .null)
  | 0 => ⟨rfl, rfl, by simp [Jvm.Free.Multi.outerC], fun j hj => by simp [Jvm.Free.Multi.outerC, hj]⟩
  | i + 1 => by
    obtain ⟨a1, a2, a3, a4⟩ := outer_slots c N h0 i
    refine ⟨a1, a2, by rw [show Jvm.Free.Multi.outerC c N h0 (i + 1) = (Jvm.Free.Multi.outerC c N h0 i).setSlot i (.ref (h0 + 1 + i)) from rfl, k2_slotsz]; exact a3, fun j hj => ?_⟩
    show ((Jvm.Free.Multi.outerC c N h0 i).setSlot i (.ref (h0 + 1 + i))).slots[j]? = _
    by_cases e : j = i
    · subst e
      simp [Cell.setSlot, Array.getElem?_setIfInBounds, a3, hj]
    · have h9 := a4 j hj
      by_cases h : j < i
      · rw [if_pos h] at h9
        simp [Cell.setSlot, Array.getElem?_setIfInBounds, Ne.symm e, h9, show j < i + 1 by omega]
      · rw [if_neg h] at h9
        simp [Cell.setSlot, Array.getElem?_setIfInBounds, Ne.symm e, h9, show ¬ j < i + 1 by omega]
section MAKE2
variable {p : Program} {l : Launch} {e : Env} {R : Room} {s : State} {m : MethodId} {args : Array Value} {below : List Frame} {meth : Method} {c : Code} {H : Heap} {locs : List Loc} {cells slots : Nat} {Q : State → Prop}
variable {s0 : State} {D : va_G} {ρ : Nat → Nat} {z : Value} {cc : ByteArray} {own : String} {ini : Bool} {pcs : List Nat} {r : Nat × Instr × Nat × Nat} {L S : List Value} {nL n0 u0 : Nat}
set_option maxHeartbeats 8000000 in
theorem ss_multi (G : Gho l s0 D ρ z) (hW : s0.WarmedH s.vm) (hx : p.tables.exec = Jvm.exec) (hb : c.code = cc) (hown : s.vm.findClass own = some m.cls) {t9 t8 nx tg : Nat} {n k9 cst : Int32} {h : aH} (hok : okE cc own ini pcs (.multianewarray t9 t8, cst, nx, tg) r = true) (hn9 : ¬ n < 0) (hk9 : ¬ k9 < 0) (hn8 : n.toNatClampNeg ≤ 10000) (hk8 : k9.toNatClampNeg ≤ 10000) (hn0 : n0 ≤ aN h) (hu0 : u0 ≤ aU h) (hc1 : aN h + 1 + n.toNatClampNeg - n0 ≤ R.cells) (hs1 : aU h + (n.toNatClampNeg + n.toNatClampNeg * k9.toNatClampNeg) - u0 ≤ R.slots)
    (k : KC p l e R s m args below meth c Q s0 D ρ z nL n0 u0 ((pcs[nx]?).getD 0) L (.ref (aN h) :: S) (aNew2 h n.toNatClampNeg k9.toNatClampNeg)) : KC p l e R s m args below meth c Q s0 D ρ z nL n0 u0 r.1 L (.int k9 :: .int n :: S) h := by
  obtain ⟨pc, raw, len, lk⟩ := r
  simp only [okE, Bool.and_eq_true, decide_eq_true_eq] at hok
  obtain ⟨hd, ⟨hn, rfl⟩, hr⟩ := hok
  dsimp only at hd hn ⊢
  split at hr
  · rename_i q hq
    simp only [Bool.and_eq_true, decide_eq_true_eq] at hr
    obtain ⟨⟨rfl, rfl⟩, hq2⟩ := hr
    have hlink := word_on G hW (subl_mem _ _ CL_ok _ (List.mem_map_of_mem (List.mem_of_getElem? hq))) rfl args
    simp only [clW, hq2] at hlink
    have ho0 : (Cond.arrayOver (.array .int)).before #[] s0 = true := G.2.2.2.1 _ (by decide +kernel)
    have ho : (Cond.arrayOver (.array .int)).before args s = true := over_moved hW.alike ho0
    have harr : (Cond.arrayClass .int).before args s = true := word_on G hW (by decide +kernel) rfl args
    intro H locs hR hlo ls hl
    obtain ⟨g1, g2⟩ := rho_new G hR
    simp only [List.map_cons]
    intro T hT Xs
    obtain ⟨vm₁, cA, comp, -, fA, fC, hO, hI, X', step⟩ := Xs.multianewarray2F hx (ty := .int) hown hlink ho harr (g := F0 m pc ls (.int k9 :: .int n :: S.map (cvV ρ z))) rfl (by rw [hb]; exact hd) rfl hn9 hk9 (by omega) (Nat.le_trans (Nat.mul_le_mul_right _ hk8) (by decide)) (by omega) rfl rfl (by omega) (by omega)
    generalize hF : Jvm.Free.Multi.fill (T.setVm vm₁) cA comp n.toNatClampNeg k9.toNatClampNeg (defaultValue .int) n.toNatClampNeg = F at X' step
    have hTh : (T.setVm vm₁).heap = H := hT
    obtain ⟨f1, f2, -, -⟩ := Jvm.Free.Multi.fill_facts (T.setVm vm₁) cA comp n.toNatClampNeg k9.toNatClampNeg (defaultValue .int) n.toNatClampNeg
    rw [hF, hTh] at f1 f2
    have hold : ∀ x : Nat, x < H.size → F.heap[x]? = H[x]? := fun x hx => by
      have := Jvm.Free.Multi.fill_old (T.setVm vm₁) cA comp n.toNatClampNeg k9.toNatClampNeg (defaultValue .int) (a := x) (by rw [hTh]; exact hx) n.toNatClampNeg
      rw [hF, hTh] at this
      exact this
    have hrow : ∀ j : Nat, j < n.toNatClampNeg → F.heap[H.size + 1 + j]? = some (Jvm.Free.Multi.innerC comp k9.toNatClampNeg (defaultValue .int)) := fun j hj => by
      have := Jvm.Free.Multi.fill_inner (T.setVm vm₁) cA comp n.toNatClampNeg k9.toNatClampNeg (defaultValue .int) n.toNatClampNeg j hj
      rw [hF, hTh] at this
      exact this
    have hN1 : aN h = h.1 := rfl
    obtain ⟨o1, o2, o3, o4⟩ := outer_slots cA n.toNatClampNeg H.size n.toNatClampNeg
    have hr2 := hR.2.1
    have hr1 := hR.1
    have hrel : RelH s0 D ρ z (aNew2 h n.toNatClampNeg k9.toNatClampNeg) F.heap := by
      refine rel_grow G (1 + n.toNatClampNeg) hR (by show h.1 + 1 + n.toNatClampNeg = _; omega) (fun b hb => ?_) (fun b hb => ?_) (fun b j hb => ?_) (fun b j hb => ?_) (by omega) hold (fun b hb => ?_) (fun b h1 h2 => ?_)
      · simp only [aT, aNew2]; rw [if_neg (by omega), if_neg (by omega)]
      · simp only [aL, aNew2]; rw [if_neg (by omega), if_neg (by omega)]
      · simp only [aI, aNew2]; rw [if_neg (by omega)]
      · simp only [aR, aNew2]; rw [if_neg (by omega), if_neg (by omega)]
      · have h9 := hR.2.2.2.2.1 b (by omega)
        simp only [aT, aNew2]; rw [if_neg (by omega), if_neg (by omega)]; exact h9
      · by_cases hb9 : b = aN h
        · subst hb9
          have hT9 : aT (aNew2 h n.toNatClampNeg k9.toNatClampNeg) (aN h) = 104 := by simp only [aT, aNew2]; rw [if_pos hN1]
          have hL9 : aL (aNew2 h n.toNatClampNeg k9.toNatClampNeg) (aN h) = n.toNatClampNeg := by simp only [aL, aNew2]; rw [if_pos hN1]
          refine ⟨fun h9 => ?_, fun h9 => ?_, fun _ h9 => ?_, fun _ h9 => ⟨_, by rw [g1]; exact f2, ?_, ?_, ?_, fun j hj => ?_, fun _ => ⟨o2, ?_⟩⟩⟩
          · rw [hT9] at h9; omega
          · rw [hT9] at h9; omega
          · rw [hT9] at h9; omega
          · rw [hT9]; exact State.isArrayOf_alike hW.alike.symm (hO _ _ _).1
          · exact (hO _ _ _).2
          · rw [hL9]; exact o3
          · rw [hL9] at hj
            rw [o4 j hj, if_pos hj]
            have hR9 : aR (aNew2 h n.toNatClampNeg k9.toNatClampNeg) (aN h) j = aN h + 1 + j := by simp only [aR, aNew2]; rw [if_pos hN1, if_pos hj]; rfl
            unfold aV
            rw [hT9, hR9]
            have h5 := G.1.2.1 (aN h + 1 + j) (by omega)
            show some (Value.ref (H.size + 1 + j)) = some (cvV ρ z (rV (aN h + 1 + j)))
            rw [rV, if_neg (by omega)]
            show _ = some (if aN h + 1 + j = 999 then z else .ref (ρ (aN h + 1 + j)))
            rw [if_neg (by omega), h5, show s0.heap.size + (aN h + 1 + j - 1000) = H.size + 1 + j by omega]
          · rw [hT9, o1, ← hW.alike.findClass]; exact fA
        · have hbb : h.1 < b ∧ b ≤ h.1 + n.toNatClampNeg := by omega
          have hT9 : aT (aNew2 h n.toNatClampNeg k9.toNatClampNeg) b = 100 := by simp only [aT, aNew2]; rw [if_neg (by omega), if_pos hbb]
          have hL9 : aL (aNew2 h n.toNatClampNeg k9.toNatClampNeg) b = k9.toNatClampNeg := by simp only [aL, aNew2]; rw [if_neg (by omega), if_pos hbb]
          have h5 := G.1.2.1 b (by omega)
          have h6 : ρ b = H.size + 1 + (b - aN h - 1) := by omega
          refine ⟨fun h9 => ?_, fun h9 => ?_, fun _ h9 => ?_, fun _ h9 => ⟨_, by rw [h6]; exact hrow _ (by omega), ?_, ?_, ?_, fun j hj => ?_, fun _ => ⟨rfl, ?_⟩⟩⟩
          · rw [hT9] at h9; omega
          · rw [hT9] at h9; omega
          · rw [hT9] at h9; omega
          · rw [hT9]; exact State.isArrayOf_alike hW.alike.symm (hI _ _).1
          · exact (hI _ _).2
          · rw [hL9]; simp [Jvm.Free.Multi.innerC]
          · rw [hL9] at hj
            have hI9 : aI (aNew2 h n.toNatClampNeg k9.toNatClampNeg) b j = 0 := by simp only [aI, aNew2]; rw [if_pos (by omega)]
            unfold aV
            rw [hT9, hI9]
            simp [Jvm.Free.Multi.innerC, hj, cvV, defaultValue]
          · rw [hT9, ← hW.alike.findClass]; exact fC
    have k2 := KC.go hn k F.heap locs hrel hlo ls hl
    simp only [List.map_cons, g2] at k2
    have c1 : aN (aNew2 h n.toNatClampNeg k9.toNatClampNeg) - n0 = aN h - n0 + 1 + n.toNatClampNeg := by
      show h.1 + 1 + n.toNatClampNeg - n0 = _
      omega
    have c2 : aU (aNew2 h n.toNatClampNeg k9.toNatClampNeg) - u0 = aU h - u0 + n.toNatClampNeg + n.toNatClampNeg * k9.toNatClampNeg := by
      show aU h + (n.toNatClampNeg + n.toNatClampNeg * k9.toNatClampNeg) - u0 = _
      omega
    rw [c1, c2] at k2
    obtain ⟨t, a1, b1⟩ := k2 F rfl X'
    refine ⟨t, step t ?_, b1⟩
    have e : T.heap.size = H.size := by rw [hT]
    rw [e]
    exact a1
  · cases hr
set_option maxHeartbeats 4000000 in
theorem ss_clone (G : Gho l s0 D ρ z) (hW : s0.WarmedH s.vm) (hx : p.tables.exec = Jvm.exec) (hb : c.code = cc) (hml : c.maxLocals = nL) (hown : s.vm.findClass own = some m.cls) {t9 t8 nx tg a : Nat} {cst : Int32} {h : aH} (hok : okE cc own ini pcs (.invokeinterface t9 t8, cst, nx, tg) r = true) (ht : aT h a = 100) (ha : 1000 ≤ a) (h8 : cat8 S = true) (hRf : 1 ≤ R.frames) (hRl : 100 ≤ R.locals) (hn0 : n0 ≤ aN h) (hu0 : u0 ≤ aU h) (hc1 : aN h + 1 - n0 ≤ R.cells) (hs1 : aU h + aL h a - u0 ≤ R.slots)
    (k : KC p l e R s m args below meth c Q s0 D ρ z nL n0 u0 ((pcs[nx]?).getD 0) L (.ref (aN h) :: S) (aCln h a)) : KC p l e R s m args below meth c Q s0 D ρ z nL n0 u0 r.1 L (.ref a :: S) h := by
  obtain ⟨pc, raw, len, lk⟩ := r
  simp only [okE, Bool.and_eq_true, decide_eq_true_eq] at hok
  obtain ⟨hd, ⟨hn, rfl⟩, hr⟩ := hok
  dsimp only at hd hn ⊢
  split at hr
  · rename_i q hq
    simp only [Bool.and_eq_true, decide_eq_true_eq] at hr
    obtain ⟨⟨rfl, rfl⟩, hq2⟩ := hr
    have hlink := word_on G hW (subl_mem _ _ ML_ok _ (List.mem_map_of_mem (List.mem_of_getElem? hq))) rfl args
    simp only [mlW, hq2] at hlink
    have hsame : (Cond.sameMethod "[I" "java/lang/Object" "clone" "()Ljava/lang/Object;").before args s = true := word_on G hW (by decide +kernel) rfl args
    have hnat : (Cond.native ⟨"java/lang/Object", "clone", "()Ljava/lang/Object;"⟩).before args s = true := word_on G hW (by decide +kernel) rfl args
    have hinst : (Cond.instanceMethod ⟨"java/lang/Object", "clone", "()Ljava/lang/Object;"⟩).before args s = true := word_on G hW (by decide +kernel) rfl args
    have hsel : (Cond.selects "[I" ⟨"[I", "clone", "()Ljava/lang/Object;"⟩ ⟨"java/lang/Object", "clone", "()Ljava/lang/Object;"⟩).before args s = true := word_on G hW (by decide +kernel) rfl args
    have hcl : (Cond.castable "[I" "java/lang/Cloneable").before args s = true := word_on G hW (by decide +kernel) rfl args
    intro H locs hR hlo ls hl
    obtain ⟨g1, g2⟩ := rho_new G hR
    obtain ⟨hcv, -, cell, q1, q2, q3, q4, q5, q6⟩ := arr_at hR (a := a) (by omega) (by omega)
    obtain ⟨w1, w2⟩ := q6 ha
    rw [ht] at w2 q2
    simp only [List.map_cons, hcv]
    have hnm : s.vm.findClass "[I" = some cell.cls := by rw [hW.alike.findClass]; exact w2
    obtain ⟨c0, t0', f1, f2, f3⟩ := Cond.castable_spec hcl
    cases hnm.symm.trans f1
    intro T hT X
    obtain ⟨-, kS, hkS, compS, hkindS⟩ := State.isArrayOf_alike hW.alike q2
    obtain ⟨-, kA, hkA, comp, hkind⟩ := State.isArrayOf_alike X.warmed.alike (State.isArrayOf_alike hW.alike q2)
    have hcs := catS (ρ := ρ) G.2.1 S
    have h8' : (S.map fun v => v.category).sum ≤ 8 := of_decide_eq_true h8
    obtain ⟨vm', X', st⟩ := X.cloneArray hx hown hlink hsame hnat hinst hsel (a := ρ a) (cell := cell) (by rw [hT]; exact q1) (fun k h => by rw [w1] at h; cases h) q3 hnm f2 f3
      (fun i v hv => by
        have hlt : i < aL h a := by rw [← q4]; exact (Array.getElem?_eq_some_iff.mp hv).1
        have h5 := q5 i hlt
        have e1 : aV h a i = .int (aI h a i) := by unfold aV; rw [if_pos (by omega)]
        rw [e1] at h5
        have h6 : v = .int (aI h a i) := Option.some.inj (hv.symm.trans h5)
        rw [h6]
        simp [State.fitsSlot, State.slotType?, hkA, hkind, aTy, fits])
      (g := F0 m pc ls (.ref (ρ a) :: S.map (cvV ρ z))) rfl (by rw [hml]; exact hl.1) rfl (by rw [hb]; exact hd) hRf (by show 2 * 0 + _ + 14 ≤ _; rw [hcs]; omega) (by omega) (by rw [q4]; omega) (hloader := Vm.clonesLoader_of_array hkS hkindS)
    have hT9 : aT (aCln h a) (aN h) = 100 := by simp [aT, aCln, aN]
    have hL9 : aL (aCln h a) (aN h) = aL h a := by simp [aL, aCln, aN]
    have hN1 : aN h = h.1 := rfl
    have hrel : RelH s0 D ρ z (aCln h a) (H.push { cls := cell.cls, slots := cell.slots }) := by
      refine rel_grow G 1 hR rfl (fun b hb => ?_) (fun b hb => ?_) (fun b j hb => ?_) (fun b j hb => ?_) (by simp) (fun q hq => by rw [Array.getElem?_push, if_neg (Nat.ne_of_lt hq)]) (fun b hb => ?_) (fun b h1 h2 => ?_)
      · simp only [aT, aCln]; rw [if_neg (by omega)]
      · show (if b = h.1 then (100, aL h a) else h.2.2.1 b).2 = _
        rw [if_neg (by omega)]; rfl
      · simp only [aI, aCln]; rw [if_neg (by omega)]
      · simp only [aR, aCln]; rw [if_neg (by omega)]
      · have h9 := hR.2.2.2.2.1 b (by omega)
        simp only [aT, aCln]; rw [if_neg (by omega)]; exact h9
      · have hb9 : b = aN h := by omega
        subst hb9
        refine ⟨fun h9 => ?_, fun h9 => ?_, fun _ h9 => ?_, fun _ h9 => ⟨_, by rw [g1]; exact Array.getElem?_push_size, ?_, (fun h9 => by cases h9), ?_, fun j hj => ?_, fun _ => ⟨rfl, ?_⟩⟩⟩
        · rw [hT9] at h9; omega
        · rw [hT9] at h9; omega
        · rw [hT9] at h9; omega
        · rw [hT9]
          obtain ⟨y1, y2⟩ := q2
          exact ⟨(fun k h => by cases h), y2⟩
        · rw [hL9]; exact q4
        · rw [hL9] at hj
          have h5 := q5 j hj
          have e1 : aV h a j = .int (aI h a j) := by unfold aV; rw [if_pos (by omega)]
          rw [e1] at h5
          have hI9 : aI (aCln h a) (aN h) j = aI h a j := by simp [aI, aCln, aN]
          unfold aV
          rw [hT9, hI9]
          exact h5
        · rw [hT9]; exact w2
    have k2 := KC.go hn k _ locs hrel hlo ls hl
    simp only [List.map_cons, g2] at k2
    have c1 : aN (aCln h a) - n0 = aN h - n0 + 1 := by
      show aN h + 1 - n0 = _
      omega
    have c2 : aU (aCln h a) - u0 = aU h - u0 + cell.slots.size := by
      show aU h + aL h a - u0 = _
      rw [q4]; omega
    rw [c1, c2] at k2
    obtain ⟨t, a1, b1⟩ := k2 ((T.setVm vm').pushCell { cls := cell.cls, slots := cell.slots }) (by rw [← hT]; rfl) X'
    refine ⟨t, st t ?_, b1⟩
    rw [hT]
    exact a1
  · cases hr
set_option maxHeartbeats 4000000 in
theorem ss_checkcast (G : Gho l s0 D ρ z) (hW : s0.WarmedH s.vm) (hx : p.tables.exec = Jvm.exec) (hb : c.code = cc) (hown : s.vm.findClass own = some m.cls) {t9 nx tg a : Nat} {cst : Int32} {h : aH} (hok : okE cc own ini pcs (.checkcast t9, cst, nx, tg) r = true) (ht : aT h a = 100) (ha : 1000 ≤ a)
    (k : KC p l e R s m args below meth c Q s0 D ρ z nL n0 u0 ((pcs[nx]?).getD 0) L (.ref a :: S) h) : KC p l e R s m args below meth c Q s0 D ρ z nL n0 u0 r.1 L (.ref a :: S) h := by
  obtain ⟨pc, raw, len, lk⟩ := r
  simp only [okE, Bool.and_eq_true, decide_eq_true_eq] at hok
  obtain ⟨hd, ⟨hn, rfl⟩, hr⟩ := hok
  dsimp only at hd hn ⊢
  split at hr
  · rename_i q hq
    simp only [Bool.and_eq_true, decide_eq_true_eq] at hr
    obtain ⟨⟨rfl, rfl⟩, hq2⟩ := hr
    have hlink := word_on G hW (subl_mem _ _ CL_ok _ (List.mem_map_of_mem (List.mem_of_getElem? hq))) rfl args
    simp only [clW, hq2] at hlink
    intro H locs hR hlo ls hl
    obtain ⟨hcv, -, cell, q1, q2, q3, q4, q5, q6⟩ := arr_at hR (a := a) (by omega) (by omega)
    obtain ⟨w1, w2⟩ := q6 ha
    rw [ht] at w2
    have k2 := KC.go hn k H locs hR hlo ls hl
    simp only [List.map_cons, hcv] at k2 ⊢
    have hnm : s.vm.findClass "[I" = some cell.cls := by rw [hW.alike.findClass]; exact w2
    intro T hT X
    obtain ⟨vm', X', st⟩ := X.checkcastYes hx hown hlink (by rw [hT]; exact q1) (by rw [w1]; rfl) hnm (va_asg _ _) (g := F0 m pc ls (.ref (ρ a) :: S.map (cvV ρ z))) rfl rfl (by rw [hb]; exact hd)
    obtain ⟨t, a1, b1⟩ := k2 (T.setVm vm') hT X'
    exact ⟨t, st t a1, b1⟩
  · cases hr
end MAKE2
