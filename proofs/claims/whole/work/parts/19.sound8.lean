/-! ===== an exception made ===== -/
section MKE
variable {p : Program} {l : Launch} {e : Env} {R : Room} {s : State} {m : MethodId} {args : Array Value} {below : List Frame} {meth : Method} {c : Code} {H : Heap} {locs : List Loc} {cells slots : Nat} {Q : State → Prop}
variable {s0 : State} {D : va_G} {ρ : Nat → Nat} {z : Value} {cc : ByteArray} {own : String} {ini : Bool} {pcs : List Nat} {r : Nat × Instr × Nat × Nat} {L S : List Value} {nL n0 u0 : Nat}
set_option maxHeartbeats 4000000 in
theorem ex_make (hexec : p.tables.exec = Jvm.exec) (hb : c.code = cc) (G : Gho l s0 D ρ z) (hW : s0.WarmedH s.vm) (hown : s.vm.findClass own = some m.cls) {pc n : Nat} {h : aH} {ls : Array Slot} {q : String × Nat × Nat × Nat × Nat × Nat × Nat} (hq : q ∈ EXc) (hq1 : q.1 = own) (hj : q.2.2.2.2.2.1 < 5)
    {t : String × Nat × String} (ht : SRl[q.2.2.2.2.1]? = some t) (ht1 : t.1 = own) (ht2 : t.2.1 = q.2.2.1) (hR : RelH s0 D ρ z h H) (hsize : ls.size = c.maxLocals)
    (d0 : decode cc pc = .ok (.new q.2.1, 3)) (d3 : decode cc (pc + 3) = .ok (.dup, 1)) (d4 : n = 2 ∧ decode cc (pc + 4) = .ok (.ldc q.2.2.1, 2) ∨ n = 3 ∧ decode cc (pc + 4) = .ok (.ldc_w q.2.2.1, 3)) (d6 : decode cc (pc + 4 + n) = .ok (.invokespecial q.2.2.2.1, 3))
    (hRframes : 5 < R.frames) (hRlocals : 82 ≤ R.locals) (hRcells : cells + 1 ≤ R.cells) (hRslots : slots + 6 ≤ R.slots)
    (kk : ∀ (H1 : Heap) (ce : Cell), H1.size = H.size + 1 → (∀ q : Nat, q < H.size → H1[q]? = H[q]?) → H1[H.size]? = some ce → ce.vm = .none → s0.vm.findClass (EXn q.2.2.2.2.2.1) = some ce.cls → W p l e R s m args below meth c H1 locs (cells + 1) (slots + 6) Q (F0 m (pc + 4 + n + 3) ls [.ref H.size])) :
    W p l e R s m args below meth c H locs cells slots Q (F0 m pc ls []) := by
  intro T hT X
  subst hT
  have htr : e.platform.stackTraces = false := (show e.platform.stackTraces = l.stackTraces by rw [X.admits.platform]).trans G.2.2.1
  have Y := vx_rebase X (R' := { frames := R.frames, locals := R.locals, cells := 1, slots := 6 }) (Nat.le_refl _) (Nat.le_refl _) hRcells hRslots
  obtain ⟨s', hA'⟩ : ∃ z, z = (T.setVm s.vm).setFrames (.invoking m args :: below) := ⟨_, rfl⟩
  rw [← hA'] at Y
  have hvm : s'.vm = s.vm := by rw [hA']; rfl
  have hhp : s'.heap = T.heap := by rw [hA']; rfl
  have hW1 : s0.WarmedH s'.vm := by rw [hvm]; exact hW
  have hall : ∀ w ∈ Jvm.Cond.classLink q.1 q.2.1 (EXn q.2.2.2.2.2.1) :: Jvm.Cond.initialized (EXn q.2.2.2.2.2.1) :: (ownI q.1 q.2.2.2.1 (EXn q.2.2.2.2.2.1) (EXi q.2.2.2.2.2.1) (EXb q.2.2.2.2.2.1)).filter vx_no, w.before args s' = true := fun w hw => word_on G hW1 (EXw q hq w hw).1 (EXw q hq w hw).2 args
  have hold : ∀ a : Nat, a < s0.heap.size → ¬ s0.heap.size ≤ a → s'.heap[a]? = s0.heap[a]? := fun a ha _ => by rw [hhp]; exact hR.2.2.1 a ha
  have hU' : vx_Zq Bundle.tN "UNASSIGNED_STACK" Bundle.steD (fun q => s0.heap.size ≤ q) s' s'.heap := vx_Zq.moved hW1.alike (G.2.2.2.2.2.2.2.2.1.kept hold)
  have hN' : vx_Zq Bundle.tN "SUPPRESSED_SENTINEL" Bundle.listD (fun q => s0.heap.size ≤ q) s' s'.heap := vx_Zq.moved hW1.alike (G.2.2.2.2.2.2.2.2.2.1.kept hold)
  have hwords : ∀ w ∈ ownI q.1 q.2.2.2.1 (EXn q.2.2.2.2.2.1) (EXi q.2.2.2.2.2.1) (EXb q.2.2.2.2.2.1), w.before args s' = true := vx_own (fun w hw => hall w (List.mem_cons_of_mem _ (List.mem_cons_of_mem _ hw))) (vx_isRefq hU'.1) (vx_isRefq hN'.1) hU'.2.word hN'.2.word
  have hown' : s'.vm.findClass q.1 = some m.cls := by rw [hvm, hq1]; exact hown
  have hins : (Cond.instantiable (EXn q.2.2.2.2.2.1) 6).before args s' = true := hwords _ (by simp [ownI])
  obtain ⟨vm₁, cX, kX, hfX, hkX, -, -, X₁, st1⟩ := Y.newCold hexec (own := q.1) (C := EXn q.2.2.2.2.2.1) (index := q.2.1) (n := 6) hown' (hall _ List.mem_cons_self) hins (hall _ (List.mem_cons_of_mem _ List.mem_cons_self))
    (g := F0 m pc ls []) rfl (by rw [hb]; exact d0) (Nat.le_refl _) (Nat.le_refl _)
  generalize hT1 : (T.setVm vm₁).pushCell { cls := cX, slots := kX.instanceTypes.map defaultValue, vm := .none } = T1 at X₁ st1
  have hcat : (Value.ref T.heap.size).category = 1 := rfl
  have hcellA : T1.heap[T.heap.size]? = some (freshCell cX kX) := by rw [← hT1]; exact State.heap_pushCell_size _ _
  have d3' : decode c.code (pc + 3) = .ok (.dup, 1) := by rw [hb]; exact d3
  have hstr' : vk_R q.1 q.2.2.1 t.2.2 (ρ (2 * q.2.2.2.2.1 + 2)) s' := by
    have h1 := vk_R.warm hW1 (G.2.2.2.2.2.1 _ t ht)
    rw [ht1, ht2, ← hq1] at h1
    exact h1
  obtain ⟨w0, w1, w2, w5⟩ := EXb_ok q.2.2.2.2.2.1
  obtain ⟨V, ce, L9, Z, hL, hlt, hcl9, hvm9, st⟩ := ex_ctorMade X₁ hexec htr (own := q.1) (cls := EXn q.2.2.2.2.2.1) (ic := q.2.2.2.1) w0 w1 w2 w5 hown' (List.all_eq_true.mp EX_fit _ (List.mem_range.mpr hj)) hwords (fun x hx => nomatch hx) hfX hkX hcellA (by rw [hhp]; exact Nat.le_refl _) (msg := .ref (ρ (2 * q.2.2.2.2.1 + 2))) rfl
    (g := { method := m, pc := pc + 4 + n, locals := ls, stack := .ref (ρ (2 * q.2.2.2.2.1 + 2)) :: .ref T.heap.size :: .ref T.heap.size :: [], locked := none }) rfl hsize (rest := []) rfl
    (by rw [hb]; exact d6) hRframes (by simp only [List.map_cons, List.sum_cons, List.map_nil, List.sum_nil, hcat]; omega)
  have Z0 := Stand.forget (locs := []) Z (fun y hy => by rw [hL y hy, hhp]; exact Nat.le_refl _)
  obtain ⟨f1, f2⟩ := vx_frame Z0.same
  rw [hhp] at f1 f2
  have hh : (V.setCell T.heap.size ce).heap[T.heap.size]? = some ce := heapAt_setCell_self (s := V) ce hlt
  have hsz : (V.setCell T.heap.size ce).heap.size = T.heap.size + 1 := by
    have h9 := Z0.same.2.2.1
    rw [hhp] at h9
    have h8 : T.heap.size < (V.setCell T.heap.size ce).heap.size := (Array.getElem?_eq_some_iff.mp hh).1
    have h7 : (V.setCell T.heap.size ce).heap.size ≤ T.heap.size + (0 + 1) := h9
    omega
  subst hA'
  have X5 := vx_back9 X Y Z0
  have X6 : Stand p l e R s m args below meth c (V.setCell T.heap.size ce) locs (cells + 1) (slots + 6) := { X5 with same := X5.same.mono (by omega) (by omega) }
  obtain ⟨t9, a1, b1⟩ := kk (V.setCell T.heap.size ce).heap ce hsz (fun a ha => f2 a ha (fun z hz => nomatch hz)) hh hvm9 (by rw [hcl9, ← hW.alike.findClass]; exact hfX) _ rfl X6
  refine ⟨t9, st1 _ ?_, b1⟩
  show Steps p.tables e below (T1.setTop { method := m, pc := pc + 3, locals := ls, stack := .ref T.heap.size :: [], locked := none }) _
  jvm_step X₁.here [X₁.here.top, hexec, d3', Value.category]
  rcases d4 with ⟨rfl, d4⟩ | ⟨rfl, d4⟩
  · exact X₁.ldcString hexec (own := q.1) (text := t.2.2) (index := q.2.2.1) (a := ρ (2 * q.2.2.2.2.1 + 2)) hown' hstr'.1 hstr'.2
      (g := { method := m, pc := pc + 4, locals := ls, stack := .ref T.heap.size :: .ref T.heap.size :: [], locked := none }) rfl (by rw [hb]; exact d4) _ (st _ a1)
  · exact X₁.ldcStringW hexec (own := q.1) (text := t.2.2) (index := q.2.2.1) (a := ρ (2 * q.2.2.2.2.1 + 2)) hown' hstr'.1 hstr'.2
      (g := { method := m, pc := pc + 4, locals := ls, stack := .ref T.heap.size :: .ref T.heap.size :: [], locked := none }) rfl (by rw [hb]; exact d4) _ (st _ a1)
theorem ex_idx : (EXc.all fun q => decide (q.2.2.2.2.2.1 < 5)) = true := by decide +kernel
set_option maxHeartbeats 4000000 in
theorem ss_make (G : Gho l s0 D ρ z) (hW : s0.WarmedH s.vm) (hx : p.tables.exec = Jvm.exec) (hb : c.code = cc) (hml : c.maxLocals = nL) (hown : s.vm.findClass own = some m.cls) {c0 nx tg : Nat} {cst : Int32} {h : aH} (hok : okE cc own ini pcs (.new c0, cst, nx, tg) r = true) (hc : 20 ≤ c0) (hRf : 5 < R.frames) (hRl : 82 ≤ R.locals) (hn0 : n0 ≤ aN h) (hu0 : u0 ≤ aU h) (hc1 : aN h + 1 - n0 ≤ R.cells) (hs1 : aU h + 6 - u0 ≤ R.slots)
    (k : KC p l e R s m args below meth c Q s0 D ρ z nL n0 u0 ((pcs[nx]?).getD 0) L [.ref (aN h)] (aNew h c0 0 6)) : KC p l e R s m args below meth c Q s0 D ρ z nL n0 u0 r.1 L [] h := by
  obtain ⟨pc, raw, len, lk⟩ := r
  simp only [okE, Bool.and_eq_true, decide_eq_true_eq] at hok
  rw [if_neg (by omega)] at hok
  obtain ⟨hd, rfl, hr⟩ := hok
  dsimp only at hd ⊢
  split at hr
  · rename_i q hq
    simp only [Bool.and_eq_true, decide_eq_true_eq, Bool.or_eq_true] at hr
    obtain ⟨⟨⟨⟨⟨⟨hq1, rfl⟩, hc0⟩, hn⟩, hs9⟩, d3⟩, d4⟩ := hr
    have hqm : q ∈ EXc := List.mem_of_getElem? hq
    have hj : q.2.2.2.2.2.1 < 5 := of_decide_eq_true (List.all_eq_true.mp ex_idx q hqm)
    split at hs9
    · rename_i t ht
      simp only [Bool.and_eq_true, decide_eq_true_eq] at hs9
      intro H locs hR hlo ls hl
      obtain ⟨g1, g2⟩ := rho_new G hR
      simp only [List.map_nil]
      refine ex_make hx hb G hW hown (n := q.2.2.2.2.2.2) (h := h) hqm hq1 hj ht hs9.1 hs9.2 hR (by rw [hml]; exact hl.1) hd d3 (by rcases d4 with ⟨⟨e1, e2⟩, -⟩ | ⟨⟨e1, e2⟩, -⟩; exact Or.inl ⟨e1, e2⟩; exact Or.inr ⟨e1, e2⟩) (by rcases d4 with ⟨⟨e1, -⟩, e2⟩ | ⟨⟨e1, -⟩, e2⟩ <;> rw [e1] <;> exact e2) hRf hRl (by omega) (by omega) (fun H1 ce z1 z2 z3 z4 z5 => ?_)
      have hT9 : aT (aNew h c0 0 6) (aN h) = c0 := by simp [aT, aNew, aN]
      have hrel : RelH s0 D ρ z (aNew h c0 0 6) H1 := by
        refine rel_new G hR z1 z2 ⟨fun h9 => ?_, fun h9 => ?_, fun _ h9 => ⟨ce, by rw [g1]; exact z3, z4, ?_⟩, fun h9 => ?_⟩
        · rw [hT9] at h9; omega
        · rw [hT9] at h9; omega
        · rw [hT9, hc0, Nat.add_sub_cancel_left]; exact z5
        · rw [hT9] at h9; omega
      have k2 := KC.go hn k _ locs hrel hlo ls hl
      simp only [List.map_cons, List.map_nil, g2] at k2
      have c1 : aN (aNew h c0 0 6) - n0 = aN h - n0 + 1 := by
        show aN h + 1 - n0 = _
        omega
      have c2 : aU (aNew h c0 0 6) - u0 = aU h - u0 + 6 := by
        show aU h + 6 - u0 = _
        omega
      rw [c1, c2] at k2
      have e7 : pc + 4 + q.2.2.2.2.2.2 + 3 = pc + 7 + q.2.2.2.2.2.2 := by omega
      rw [e7]
      exact k2
    · cases hs9
  · cases hr
end MKE
