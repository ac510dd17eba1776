/-! ===== calls ===== -/
theorem okP_all (y : Nat) (hy : y < 407) : okP y = true := by
  have f : ∀ a n, (List.range' a n).all okP = true → a ≤ y → y < a + n → okP y = true := fun a n h h1 h2 => List.all_eq_true.mp h y (List.mem_range'_1.mpr ⟨h1, h2⟩)
  by_cases h0 : y < 40
  · exact f 0 40 okP_0 (by omega) (by omega)
  by_cases h1 : y < 80
  · exact f 40 40 okP_1 (by omega) (by omega)
  by_cases h2 : y < 120
  · exact f 80 40 okP_2 (by omega) (by omega)
  by_cases h3 : y < 160
  · exact f 120 40 okP_3 (by omega) (by omega)
  by_cases h4 : y < 200
  · exact f 160 40 okP_4 (by omega) (by omega)
  by_cases h5 : y < 240
  · exact f 200 40 okP_5 (by omega) (by omega)
  by_cases h6 : y < 280
  · exact f 240 40 okP_6 (by omega) (by omega)
  by_cases h7 : y < 320
  · exact f 280 40 okP_7 (by omega) (by omega)
  by_cases h8 : y < 360
  · exact f 320 40 okP_8 (by omega) (by omega)
  by_cases h9 : y < 400
  · exact f 360 40 okP_9 (by omega) (by omega)
  · exact f 400 7 okP_10 (by omega) (by omega)
theorem wdc_wK (y : Nat) : wK (wdc y) = true := by
  unfold wdc wds
  split <;> rfl
theorem mx_ok : (List.range 407).all (fun y => decide ((pgM y).2.2.1 ≤ 80) && (decide ((pgM y).2.2.2.2.2 = 99) || (mH y).isEmpty)) = true := by decide +kernel
theorem nat_ok : 19 + nativeFrameWords "java/lang/System" "arraycopy" 5 ≤ 3000 := by decide +kernel
section CALLS
variable {p : Program} {l : Launch} {e : Env} {R : Room} {s : State} {m : MethodId} {args : Array Value} {below : List Frame} {meth : Method} {c : Code} {H : Heap} {locs : List Loc} {cells slots : Nat} {Q : State → Prop}
variable {s0 : State} {D : va_G} {ρ : Nat → Nat} {z : Value} {cc : ByteArray} {own : String} {ini : Bool} {pcs : List Nat} {r : Nat × Instr × Nat × Nat} {L S : List Value} {nL n0 u0 : Nat}
/-- what a call of y finds -/
theorem ex_callB (G : Gho l s0 D ρ z) (hW : s0.WarmedH s.vm) {d y index mc ms : Nat} (hy : y < 407) (hlink : (Cond.methodLink own index (mN y)).before args s = true) (hRf : d + 9 ≤ R.frames) (hRl : 3100 + 100 * d ≤ R.locals) :
    ((rmD d mc ms).cells = mc ∧ (rmD d mc ms).slots = ms ∧ (rmD d mc ms).frames + 1 ≤ R.frames ∧ 8 + ((pgM y).2.2.1 + 11) + (rmD d mc ms).locals ≤ R.locals ∧ (∀ w ∈ [wdc y], ∀ (a' : Array Value) (U : State), s.WarmedH U.vm → w.before a' U = true)) ∧
    (wdc y).before args s = true ∧ (Cond.initialized (mN y).cls).before args s = true ∧ ((mN y).cls ≠ "java/lang/invoke/MethodHandle" ∧ (mN y).cls ≠ "java/lang/invoke/VarHandle") ∧
    (∀ sig, parseMethodDescriptor (mN y).desc = some sig → (pgM y).2.2.2.2.1 = sig.parameters.length) ∧
    ((pgM y).2.2.2.2.2 = 99 → (Cond.static (mN y)).before args s = true) ∧
    ((pgM y).2.2.2.2.2 ≠ 99 → mH y = [] ∧ (mN y).cls = CNn (pgM y).2.2.2.2.2 ∧ (Cond.instanceMethod (mN y)).before args s = true ∧ ((mN y).name ≠ "<init>" → (Cond.selects (mN y).cls (mN y) (mN y)).before args s = true)) := by
  have h1 := okP_all y hy
  simp only [okP, Bool.and_eq_true, decide_eq_true_eq] at h1
  obtain ⟨⟨⟨⟨⟨⟨h1, h2⟩, h3⟩, h4⟩, h5⟩, h6⟩, h7⟩ := h1
  have h8 := List.all_eq_true.mp mx_ok y (List.mem_range.mpr hy)
  simp only [Bool.and_eq_true, decide_eq_true_eq, Bool.or_eq_true] at h8
  refine ⟨⟨rfl, rfl, hRf, by show 8 + ((pgM y).2.2.1 + 11) + (3000 + 100 * d) ≤ _; omega, fun w hw a' U hU => ?_⟩, word_on G hW (cw_all y hy) (wdc_wK y) args, word_on G hW (subl_mem _ _ INl_ok _ (List.mem_map_of_mem (List.contains_iff_mem.mp h1))) rfl args, ⟨h5, h6⟩, fun sig hs => ?_, fun h9 => ?_, fun h9 => ?_⟩
  · cases List.mem_singleton.mp hw
    exact word_on G (State.WarmedH.trans hW hU) (cw_all y hy) (wdc_wK y) a'
  · rw [hs] at h3
    exact (Option.some.inj h3).symm
  · rw [if_pos h9] at h2
    exact word_on G hW (subl_mem _ _ Ys_ok _ (List.mem_map_of_mem (List.contains_iff_mem.mp h2))) rfl args
  · rw [if_neg h9] at h2
    simp only [Bool.and_eq_true, decide_eq_true_eq, Bool.or_eq_true] at h2
    obtain ⟨⟨q1, q2⟩, q3⟩ := h2
    refine ⟨List.isEmpty_iff.mp (h8.2.resolve_left h9), q2, word_on G hW (subl_mem _ _ Yi_ok _ (List.mem_map_of_mem (List.contains_iff_mem.mp q1))) rfl args, fun h10 => ?_⟩
    exact word_on G hW (subl_mem _ _ Ye_ok _ (List.mem_map_of_mem (List.contains_iff_mem.mp (q3.resolve_left h10)))) rfl args
theorem wdc_code {y : Nat} (h : mH y = []) : wdc y = .code (mN y) (mB y) (pgM y).2.2.1 (mR y) := by
  unfold wdc wds
  rw [h]
theorem wdc_with {y : Nat} {q : Nat × Nat × Nat × Nat} {hh : List (Nat × Nat × Nat × Nat)} (h : mH y = q :: hh) : wdc y = .codeWith (mN y) (mB y) (pgM y).2.2.1 (mR y) (q :: hh) := by
  unfold wdc wds
  rw [h]
set_option maxHeartbeats 2000000 in
theorem ex_runS (G : Gho l s0 D ρ z) (hW : s0.WarmedH s.vm) (hx : p.tables.exec = Jvm.exec) (hb : c.code = cc) (hml : c.maxLocals = nL) (hown : s.vm.findClass own = some m.cls) {d k y index : Nat} {as : List Value} {h hF : aH} {o : oR} (IH : SND l s0 D ρ z d) (hy : y < 407) (hcd : cD Pg d k y as h = some (o, hF))
    (hlink : (Cond.methodLink own index (mN y)).before args s = true) (hRf : d + 9 ≤ R.frames) (hRl : 3100 + 100 * d ≤ R.locals) (h99 : (pgM y).2.2.2.2.2 = 99) (hlen : as.length = (pgM y).2.2.2.2.1) (hR : RelH s0 D ρ z h H) {pc : Nat} {ls : Array Slot} {S' : List Value} (hls : ls.size = nL) (h8 : cat8 S' = true)
    (hd : decode cc pc = .ok (.invokestatic index, 3)) (hc1 : cells + (aN hF - aN h) ≤ R.cells) (hs1 : slots + (aU hF - aU h) ≤ R.slots) :
    vx_Run p l e R s m args below meth c H locs cells slots (aN hF - aN h) (aU hF - aU h) (F0 m pc ls ((as.map (cvV ρ z)).reverse ++ S'.map (cvV ρ z))) (S'.map (cvV ρ z)) (McQ s0 D ρ z o hF (as.map (cvV ρ z)).toArray) (McX s0 D ρ z o hF) (frB s0) := by
  obtain ⟨⟨b1, b2, b3, b4, b5⟩, b6, b7, b8, b9, b10, -⟩ := ex_callB (mc := aN hF - aN h) (ms := aU hF - aU h) G hW hy hlink hRf hRl
  have hM := IH k y as h o hF hy hcd
  have hp : PreS s H (McP s0 D ρ z as h) (as.map (cvV ρ z)) := ⟨mc_blind, fun U hU hWU => ⟨rfl, State.WarmedH.trans hW hWU, by rw [hU]; exact hR⟩⟩
  have h8' : (S'.map fun v => v.category).sum ≤ 8 := of_decide_eq_true h8
  cases hh : mH y with
  | nil =>
    rw [wdc_code hh] at hM b5 b6
    exact vx_runS (n := (pgM y).2.2.2.2.1) (Ts := []) (nL := nL) ⟨hx, hb, hml, hown, fun w hw => nomatch hw⟩ hM ⟨⟨b1, b2, b3, b4, b5, List.mem_cons_self, b6, b7, b8, b9, hlink⟩, b10 h99⟩ hp rfl (by rw [List.length_map]; exact hlen) hls rfl (by show 2 * 0 + _ ≤ 8; rw [catS G.2.1]; omega) hd ⟨hc1, hs1⟩
  | cons q hh' =>
    rw [wdc_with hh] at hM b5 b6
    exact vx_runSX (n := (pgM y).2.2.2.2.1) (Ts := []) (nL := nL) ⟨hx, hb, hml, hown, fun w hw => nomatch hw⟩ hM ⟨⟨b1, b2, b3, b4, b5, List.mem_cons_self⟩, b6, b7, b8, b9, hlink, b10 h99⟩ hp rfl (by rw [List.length_map]; exact hlen) hls rfl (by show 2 * 0 + _ ≤ 8; rw [catS G.2.1]; omega) hd ⟨hc1, hs1⟩
theorem rel_recv (G : Gho l s0 D ρ z) (hW : s0.WarmedH s.vm) {h : aH} {a t : Nat} (hR : RelH s0 D ρ z h H) (ht : aT h a = t) (ht2 : t < 14) : cvV ρ z (.ref a) = .ref (ρ a) ∧ ∃ cellB : Cell, H[ρ a]? = some cellB ∧ cellB.vm.isStatics = false ∧ s.vm.findClass (CNn t) = some cellB.cls := by
  have ha999 : aT h a ≠ 999 := by omega
  refine ⟨if_neg (rel_n999 hR ha999), ?_⟩
  obtain ⟨c1, c2, -, -⟩ := hR.2.2.2.2.2 a (rel_lt hR ha999)
  by_cases h13 : t < 13
  · obtain ⟨cell, q1, q2, q3, -⟩ := c1 (by omega)
    refine ⟨cell, q1, by rw [q3]; rfl, ?_⟩
    rw [hW.alike.findClass, q2, ht]
    exact (G.2.2.2.2.1 t h13).2.1
  · have h13' : t = 13 := by omega
    obtain ⟨⟨cell, e1, e2, e3, -⟩, -, -⟩ := c2 (by omega)
    refine ⟨cell, e1, e2, ?_⟩
    have h13n : CNn 13 = "java/lang/String" := by decide +kernel
    rw [hW.alike.findClass, h13', h13n]
    exact e3
set_option maxHeartbeats 2000000 in
theorem ex_runV (G : Gho l s0 D ρ z) (hW : s0.WarmedH s.vm) (hx : p.tables.exec = Jvm.exec) (hb : c.code = cc) (hml : c.maxLocals = nL) (hown : s.vm.findClass own = some m.cls) {d k y a index : Nat} {as : List Value} {h hF : aH} {o : oR} (IH : SND l s0 D ρ z d) (hy : y < 407) (hcd : cD Pg d k y (.ref a :: as) h = some (o, hF))
    (hlink : (Cond.methodLink own index (mN y)).before args s = true) (hRf : d + 9 ≤ R.frames) (hRl : 3100 + 100 * d ≤ R.locals) (h99 : (pgM y).2.2.2.2.2 < 14) (ht : aT h a = (pgM y).2.2.2.2.2) (hin : (mN y).name ≠ "<init>") (hlen : as.length = (pgM y).2.2.2.2.1) (hR : RelH s0 D ρ z h H) {pc : Nat} {ls : Array Slot} {S' : List Value} (hls : ls.size = nL) (h8 : cat8 S' = true)
    (hd : decode cc pc = .ok (.invokevirtual index, 3)) (hc1 : cells + (aN hF - aN h) ≤ R.cells) (hs1 : slots + (aU hF - aU h) ≤ R.slots) :
    vx_Run p l e R s m args below meth c H locs cells slots (aN hF - aN h) (aU hF - aU h) (F0 m pc ls ((as.map (cvV ρ z)).reverse ++ .ref (ρ a) :: S'.map (cvV ρ z))) (S'.map (cvV ρ z)) (McQ s0 D ρ z o hF (.ref (ρ a) :: as.map (cvV ρ z)).toArray) (McX s0 D ρ z o hF) (frB s0) := by
  obtain ⟨⟨b1, b2, b3, b4, b5⟩, b6, b7, b8, b9, -, b11⟩ := ex_callB (mc := aN hF - aN h) (ms := aU hF - aU h) G hW hy hlink hRf hRl
  obtain ⟨hh, d2, d3, d4⟩ := b11 (by omega)
  have hM := IH k y (.ref a :: as) h o hF hy hcd
  obtain ⟨hcv, hcell⟩ := rel_recv G hW hR ht h99
  have hp : PreV s H (mN y).cls (ρ a) (McP s0 D ρ z (.ref a :: as) h) (as.map (cvV ρ z)) := ⟨mc_blind, by rw [d2]; exact hcell, fun U hU hWU => ⟨by rw [List.map_cons, hcv], State.WarmedH.trans hW hWU, by rw [hU]; exact hR⟩⟩
  have h8' : (S'.map fun v => v.category).sum ≤ 8 := of_decide_eq_true h8
  rw [wdc_code hh] at hM b5 b6
  exact vx_runV (C := (mN y).cls) (n := (pgM y).2.2.2.2.1) (Ts := []) (nL := nL) ⟨hx, hb, hml, hown, fun w hw => nomatch hw⟩ hM ⟨⟨b1, b2, b3, b4, b5, List.mem_cons_self, b6, b7, b8, b9, hlink⟩, d3, d4 hin⟩ hp rfl (by rw [List.length_map]; exact hlen) hls rfl (by show 2 * 0 + _ ≤ 8; rw [catS G.2.1]; omega) hd ⟨hc1, hs1⟩
set_option maxHeartbeats 2000000 in
theorem ex_runI (G : Gho l s0 D ρ z) (hW : s0.WarmedH s.vm) (hx : p.tables.exec = Jvm.exec) (hb : c.code = cc) (hml : c.maxLocals = nL) (hown : s.vm.findClass own = some m.cls) {d k y a index : Nat} {as : List Value} {h hF : aH} {o : oR} (IH : SND l s0 D ρ z d) (hy : y < 407) (hcd : cD Pg d k y (.ref a :: as) h = some (o, hF))
    (hlink : (Cond.methodLink own index (mN y)).before args s = true) (hRf : d + 9 ≤ R.frames) (hRl : 3100 + 100 * d ≤ R.locals) (h99 : (pgM y).2.2.2.2.2 < 14) (ht : aT h a = (pgM y).2.2.2.2.2) (hin : (mN y).name = "<init>") (hret : mR y = none) (hlen : as.length = (pgM y).2.2.2.2.1) (hR : RelH s0 D ρ z h H) {pc : Nat} {ls : Array Slot} {S' : List Value} (hls : ls.size = nL) (h8 : cat8 S' = true)
    (hd : decode cc pc = .ok (.invokespecial index, 3)) (hc1 : cells + (aN hF - aN h) ≤ R.cells) (hs1 : slots + (aU hF - aU h) ≤ R.slots) :
    vx_Run p l e R s m args below meth c H locs cells slots (aN hF - aN h) (aU hF - aU h) (F0 m pc ls ((as.map (cvV ρ z)).reverse ++ .ref (ρ a) :: S'.map (cvV ρ z))) (S'.map (cvV ρ z)) (McQ s0 D ρ z o hF (.ref (ρ a) :: as.map (cvV ρ z)).toArray) (McX s0 D ρ z o hF) (frB s0) := by
  obtain ⟨⟨b1, b2, b3, b4, b5⟩, b6, b7, b8, b9, -, b11⟩ := ex_callB (mc := aN hF - aN h) (ms := aU hF - aU h) G hW hy hlink hRf hRl
  obtain ⟨hh, d2, d3, d4⟩ := b11 (by omega)
  have hM := IH k y (.ref a :: as) h o hF hy hcd
  obtain ⟨hcv, hcell⟩ := rel_recv G hW hR ht h99
  have hp : PreS s H (McP s0 D ρ z (.ref a :: as) h) (.ref (ρ a) :: as.map (cvV ρ z)) := ⟨mc_blind, fun U hU hWU => ⟨by rw [List.map_cons, hcv], State.WarmedH.trans hW hWU, by rw [hU]; exact hR⟩⟩
  have h8' : (S'.map fun v => v.category).sum ≤ 8 := of_decide_eq_true h8
  rw [wdc_code hh, hret] at hM b5 b6
  exact vx_runI (n := (pgM y).2.2.2.2.1) (Ts := []) (nL := nL) ⟨hx, hb, hml, hown, fun w hw => nomatch hw⟩ hM ⟨⟨b1, b2, b3, b4, b5, List.mem_cons_self, b6, b7, b8, b9, hlink⟩, hin, d3⟩ hp rfl (by rw [List.length_map]; exact hlen) hls rfl (by show 2 * 0 + _ ≤ 8; rw [catS G.2.1]; omega) hd ⟨hc1, hs1⟩
end CALLS
