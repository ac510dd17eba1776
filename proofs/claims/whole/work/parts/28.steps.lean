/-! ===== calls, throws and returns as steps ===== -/
theorem pgM_of {y : Nat} {Y : mM} (h : Pg[y]? = some Y) : pgM y = Y := by unfold pgM; rw [h]; rfl
theorem st_map {ρ : Nat → Nat} {z : Value} (S : List Value) (n : Nat) : S.map (cvV ρ z) = (((S.take n).reverse).map (cvV ρ z)).reverse ++ (S.drop n).map (cvV ρ z) := by
  rw [List.map_reverse, List.reverse_reverse, ← List.map_append, List.take_append_drop]
theorem rk_ret0 {y : Nat} (hy : y < 407) : ((pgM y).2.2.2.1 = 0 → mR y = none) ∧ ((pgM y).2.2.2.1 = 1 → mR y = some .int) ∧ ((pgM y).2.2.2.1 = 2 → mR y = some .boolean) ∧ ((pgM y).2.2.2.1 = 4 → mR y = some .char) ∧ ((pgM y).2.2.2.1 = 5 → mR y = some .byte) ∧ ((pgM y).2.2.2.1 = 3 → ∃ rt, mR y = some rt ∧ ((∃ n, rt = .object n) ∨ ∃ t, rt = .array t)) := by
  have h1 := okP_all y hy
  simp only [okP, Bool.and_eq_true] at h1
  have h7 := h1.2
  refine ⟨fun h => ?_, fun h => ?_, fun h => ?_, fun h => ?_, fun h => ?_, fun h => ?_⟩ <;> rw [h] at h7
  · exact of_decide_eq_true h7
  · exact of_decide_eq_true h7
  · exact of_decide_eq_true h7
  · exact of_decide_eq_true h7
  · exact of_decide_eq_true h7
  · cases hm : mR y with
    | none => rw [hm] at h7; cases h7
    | some rt =>
      rw [hm] at h7
      cases rt <;> first | exact ⟨_, rfl, Or.inl ⟨_, rfl⟩⟩ | exact ⟨_, rfl, Or.inr ⟨_, rfl⟩⟩ | (cases h7; done)
theorem law_rk : (pgM 407).2.2.2.1 = 2 ∧ mR 407 = some .boolean := by decide +kernel
theorem rk_ret {y : Nat} (hy : y < 408) : ((pgM y).2.2.2.1 = 0 → mR y = none) ∧ ((pgM y).2.2.2.1 = 1 → mR y = some .int) ∧ ((pgM y).2.2.2.1 = 2 → mR y = some .boolean) ∧ ((pgM y).2.2.2.1 = 4 → mR y = some .char) ∧ ((pgM y).2.2.2.1 = 5 → mR y = some .byte) ∧ ((pgM y).2.2.2.1 = 3 → ∃ rt, mR y = some rt ∧ ((∃ n, rt = .object n) ∨ ∃ t, rt = .array t)) := by
  by_cases h7 : y < 407
  · exact rk_ret0 h7
  · have e7 : y = 407 := by omega
    subst e7
    obtain ⟨r1, r2⟩ := law_rk
    refine ⟨fun h => ?_, fun h => ?_, fun h => r2, fun h => ?_, fun h => ?_, fun h => ?_⟩ <;> rw [r1] at h <;> exact absurd h (by decide)
section STP
variable {p : Program} {l : Launch} {e : Env} {R : Room} {s : State} {m : MethodId} {args : Array Value} {below : List Frame} {meth : Method} {c : Code} {H : Heap} {locs : List Loc} {cells slots : Nat} {Q : State → Prop}
variable {s0 : State} {D : va_G} {ρ : Nat → Nat} {z : Value} {cc : ByteArray} {own : String} {ini : Bool} {pcs : List Nat} {r : Nat × Instr × Nat × Nat} {L S : List Value} {nL n0 u0 : Nat}
set_option maxHeartbeats 4000000 in
theorem ss_static (G : Gho l s0 D ρ z) (hW : s0.WarmedH s.vm) (hx : p.tables.exec = Jvm.exec) (hb : c.code = cc) (hml : c.maxLocals = nL) (hown : s.vm.findClass own = some m.cls) {y i y9 nx tg d k : Nat} {cst : Int32} {M : mM} {h : aH} {rows : List (Nat × Instr × Nat × Nat)} (hrows : ∀ (i : Nat) (e : mE), M.1[i]? = some e → ∃ r, rows[i]? = some r ∧ okE cc own ini pcs e r = true) (hpcs : pcs = rows.map fun r => r.1)
    (hH : okH own pcs M.2.1 (mH y) = true) {o : oR} (htab : ((∃ v, o = .inl v) ∧ M.2.1 = []) ∨ c.exceptionTable.toList = tableOf (mH y)) (hlocks : meth.locks = false) (hi : i < pcs.length) (hpc : pcs[i]?.getD 0 = r.1) (IH : SND l s0 D ρ z d) (hRf : d + 9 ≤ R.frames) (hRl : 3100 + 100 * d ≤ R.locals) {hF : aH} {mc ms : Nat} (hmc : mc = aN hF - n0) (hms : ms = aU hF - u0) (hRc : mc ≤ R.cells) (hRs : ms ≤ R.slots)
    {res : cfg ⊕ (oR × aH)} (hok : okE cc own ini pcs (.invokestatic y9, cst, nx, tg) r = true) (hy9 : y9 < 407) (h99 : (pgM y9).2.2.2.2.2 = 99 ∧ (pgM y9).2.2.2.2.1 ≤ S.length ∧ cat8 (S.drop (pgM y9).2.2.2.2.1) = true) (hs : bck M i nx L (S.drop (pgM y9).2.2.2.2.1) (cD Pg d k y9 (S.take (pgM y9).2.2.2.2.1).reverse h) = some res) (hle : le2 (hOf res) hF) (hn0 : n0 ≤ aN h) (hu0 : u0 ≤ aU h)
    (kI : ∀ c', res = .inl c' → KC p l e R s m args below meth c (vx_MQ below (McQ s0 D ρ z o hF) (McX s0 D ρ z o hF) args s mc ms (frB s0)) s0 D ρ z nL n0 u0 ((pcs[c'.1]?).getD 0) c'.2.1 c'.2.2.1 c'.2.2.2) (kR : ∀ r', res = .inr r' → r' = (o, hF))
    (hst : ∀ (t k : Nat) (cst : Int32) (nx tg : Nat), M.1[t]? = some (Instr.astore k, cst, nx, tg) → k < nL) :
    KC p l e R s m args below meth c (vx_MQ below (McQ s0 D ρ z o hF) (McX s0 D ρ z o hF) args s mc ms (frB s0)) s0 D ρ z nL n0 u0 r.1 L S h := by
  cases hcd : cD Pg d k y9 (S.take (pgM y9).2.2.2.2.1).reverse h with
  | none => rw [hcd] at hs; cases hs
  | some w =>
    obtain ⟨o1, h1⟩ := w
    rw [hcd] at hs
    have hm1 : le2 h h1 := cD_mono _ _ _ _ _ _ hcd
    have hm2 : le2 h1 (hOf res) := bck_mono (h := h1) (fun r hr => by cases hr; exact le2.refl _) hs
    have hm3 := hm2.trans hle
    rw [← hpc]
    simp only [okE, Bool.and_eq_true, decide_eq_true_eq] at hok
    obtain ⟨hd, ⟨hn, hlen3⟩, hr⟩ := hok
    split at hr
    · rename_i q hq
      simp only [Bool.and_eq_true, decide_eq_true_eq] at hr
      obtain ⟨⟨hq0, hraw⟩, hq2⟩ := hr
      have hlink := word_on G hW (subl_mem _ _ ML_ok _ (List.mem_map_of_mem (List.mem_of_getElem? hq))) rfl args
      simp only [mlW, hq2, hq0] at hlink
      rw [hraw, hlen3, ← hpc] at hd
      rw [← hpc] at hn
      intro H locs hR hlo ls hl
      rw [st_map S (pgM y9).2.2.2.2.1]
      refine run_bck (st := []) G hW hx hb hown hrows hpcs hH htab hlocks hi hs hmc hms hn hn0 hu0 hm1 kI kR hst hlo hl (ex_runS G hW hx hb hml hown IH hy9 hcd hlink hRf hRl h99.1 (by rw [List.length_reverse, List.length_take]; have := h99.2.1; omega) hR hl.1 h99.2.2 hd ?_ ?_)
      · refine Nat.le_trans ?_ (Nat.le_trans (Nat.le_of_eq hmc.symm) hRc); have := hm1.1; have := hm3.1; omega
      · refine Nat.le_trans ?_ (Nat.le_trans (Nat.le_of_eq hms.symm) hRs); have := hm1.2; have := hm3.2; omega
    · cases hr
set_option maxHeartbeats 4000000 in
theorem ss_virtual (G : Gho l s0 D ρ z) (hW : s0.WarmedH s.vm) (hx : p.tables.exec = Jvm.exec) (hb : c.code = cc) (hml : c.maxLocals = nL) (hown : s.vm.findClass own = some m.cls) {y i y9 nx tg d k a : Nat} {cst : Int32} {M : mM} {h : aH} {S' : List Value} {rows : List (Nat × Instr × Nat × Nat)} (hrows : ∀ (i : Nat) (e : mE), M.1[i]? = some e → ∃ r, rows[i]? = some r ∧ okE cc own ini pcs e r = true) (hpcs : pcs = rows.map fun r => r.1)
    (hH : okH own pcs M.2.1 (mH y) = true) {o : oR} (htab : ((∃ v, o = .inl v) ∧ M.2.1 = []) ∨ c.exceptionTable.toList = tableOf (mH y)) (hlocks : meth.locks = false) (hi : i < pcs.length) (hpc : pcs[i]?.getD 0 = r.1) (IH : SND l s0 D ρ z d) (hRf : d + 9 ≤ R.frames) (hRl : 3100 + 100 * d ≤ R.locals) {hF : aH} {mc ms : Nat} (hmc : mc = aN hF - n0) (hms : ms = aU hF - u0) (hRc : mc ≤ R.cells) (hRs : ms ≤ R.slots)
    {res : cfg ⊕ (oR × aH)} {isI : Bool} (hok : okE cc own ini pcs ((if isI then .invokespecial y9 else .invokevirtual y9), cst, nx, tg) r = true) (hy9 : y9 < 407) (hdr : S.drop (pgM y9).2.2.2.2.1 = .ref a :: S') (h99 : (pgM y9).2.2.2.2.2 < 14 ∧ aT h a = (pgM y9).2.2.2.2.2 ∧ cat8 S' = true) (hs : bck M i nx L S' (cD Pg d k y9 (.ref a :: (S.take (pgM y9).2.2.2.2.1).reverse) h) = some res) (hle : le2 (hOf res) hF) (hn0 : n0 ≤ aN h) (hu0 : u0 ≤ aU h)
    (kI : ∀ c', res = .inl c' → KC p l e R s m args below meth c (vx_MQ below (McQ s0 D ρ z o hF) (McX s0 D ρ z o hF) args s mc ms (frB s0)) s0 D ρ z nL n0 u0 ((pcs[c'.1]?).getD 0) c'.2.1 c'.2.2.1 c'.2.2.2) (kR : ∀ r', res = .inr r' → r' = (o, hF))
    (hst : ∀ (t k : Nat) (cst : Int32) (nx tg : Nat), M.1[t]? = some (Instr.astore k, cst, nx, tg) → k < nL) :
    KC p l e R s m args below meth c (vx_MQ below (McQ s0 D ρ z o hF) (McX s0 D ρ z o hF) args s mc ms (frB s0)) s0 D ρ z nL n0 u0 r.1 L S h := by
  cases hcd : cD Pg d k y9 (.ref a :: (S.take (pgM y9).2.2.2.2.1).reverse) h with
  | none => rw [hcd] at hs; cases hs
  | some w =>
    obtain ⟨o1, h1⟩ := w
    rw [hcd] at hs
    have hm1 : le2 h h1 := cD_mono _ _ _ _ _ _ hcd
    have hm2 : le2 h1 (hOf res) := bck_mono (h := h1) (fun r hr => by cases hr; exact le2.refl _) hs
    have hm3 := hm2.trans hle
    have hlenS : (S.take (pgM y9).2.2.2.2.1).reverse.length = (pgM y9).2.2.2.2.1 := by
      rw [List.length_reverse, List.length_take]
      have : (S.drop (pgM y9).2.2.2.2.1).length = S'.length + 1 := by rw [hdr]; rfl
      rw [List.length_drop] at this
      omega
    rw [← hpc]
    intro H locs hR hlo ls hl
    obtain ⟨hcv, -⟩ := rel_recv G hW hR h99.2.1 h99.1
    rw [st_map S (pgM y9).2.2.2.2.1, hdr, List.map_cons, hcv]
    cases isI with
    | false =>
      simp only [okE, Bool.and_eq_true, decide_eq_true_eq, Bool.false_eq_true, if_false] at hok
      obtain ⟨hd, ⟨hn, hlen3⟩, hr⟩ := hok
      split at hr
      · rename_i q hq
        simp only [Bool.and_eq_true, decide_eq_true_eq] at hr
        obtain ⟨⟨⟨hq0, hraw⟩, hq2⟩, hini⟩ := hr
        have hlink := word_on G hW (subl_mem _ _ ML_ok _ (List.mem_map_of_mem (List.mem_of_getElem? hq))) rfl args
        simp only [mlW, hq2, hq0] at hlink
        rw [hraw, hlen3, ← hpc] at hd
        rw [← hpc] at hn
        refine run_bck (st := []) G hW hx hb hown hrows hpcs hH htab hlocks hi hs hmc hms hn hn0 hu0 hm1 kI kR hst hlo hl (ex_runV G hW hx hb hml hown IH hy9 hcd hlink hRf hRl h99.1 h99.2.1 hini hlenS hR hl.1 h99.2.2 hd ?_ ?_)
        · refine Nat.le_trans ?_ (Nat.le_trans (Nat.le_of_eq hmc.symm) hRc); have := hm1.1; have := hm3.1; omega
        · refine Nat.le_trans ?_ (Nat.le_trans (Nat.le_of_eq hms.symm) hRs); have := hm1.2; have := hm3.2; omega
      · cases hr
    | true =>
      simp only [okE, Bool.and_eq_true, decide_eq_true_eq, if_true] at hok
      obtain ⟨hd, ⟨hn, hlen3⟩, hr⟩ := hok
      split at hr
      · rename_i q hq
        rw [if_neg (by omega)] at hr
        simp only [Bool.and_eq_true, decide_eq_true_eq] at hr
        obtain ⟨⟨hq0, hraw⟩, hq2, hini⟩ := hr
        have hlink := word_on G hW (subl_mem _ _ ML_ok _ (List.mem_map_of_mem (List.mem_of_getElem? hq))) rfl args
        simp only [mlW, hq2, hq0] at hlink
        rw [hraw, hlen3, ← hpc] at hd
        rw [← hpc] at hn
        have hret : mR y9 = none := by
          have h8 := List.all_eq_true.mp ini_ret y9 (List.mem_range.mpr hy9)
          simp only [Bool.or_eq_true, decide_eq_true_eq] at h8
          exact h8.resolve_left (fun h9 => h9 hini)
        refine run_bck (st := []) G hW hx hb hown hrows hpcs hH htab hlocks hi hs hmc hms hn hn0 hu0 hm1 kI kR hst hlo hl (ex_runI G hW hx hb hml hown IH hy9 hcd hlink hRf hRl h99.1 h99.2.1 hini hret hlenS hR hl.1 h99.2.2 hd ?_ ?_)
        · refine Nat.le_trans ?_ (Nat.le_trans (Nat.le_of_eq hmc.symm) hRc); have := hm1.1; have := hm3.1; omega
        · refine Nat.le_trans ?_ (Nat.le_trans (Nat.le_of_eq hms.symm) hRs); have := hm1.2; have := hm3.2; omega
      · cases hr
set_option maxHeartbeats 4000000 in
theorem ss_athrow (G : Gho l s0 D ρ z) (hW : s0.WarmedH s.vm) (hx : p.tables.exec = Jvm.exec) (hb : c.code = cc) (hown : s.vm.findClass own = some m.cls) {y i nx tg q : Nat} {cst : Int32} {M : mM} {h : aH} {rows : List (Nat × Instr × Nat × Nat)} (hrows : ∀ (i : Nat) (e : mE), M.1[i]? = some e → ∃ r, rows[i]? = some r ∧ okE cc own ini pcs e r = true) (hpcs : pcs = rows.map fun r => r.1)
    (hH : okH own pcs M.2.1 (mH y) = true) {o : oR} (htab : ((∃ v, o = .inl v) ∧ M.2.1 = []) ∨ c.exceptionTable.toList = tableOf (mH y)) (hlocks : meth.locks = false) (hi : i < pcs.length) (hpc : pcs[i]?.getD 0 = r.1) {hF : aH} {mc ms : Nat} (hmc : mc = aN hF - n0) (hms : ms = aU hF - u0)
    {res : cfg ⊕ (oR × aH)} (hok : okE cc own ini pcs (.athrow, cst, nx, tg) r = true) (ht : 20 ≤ aT h q ∧ aT h q < 25) (hs : thr M i L h q = some res)
    (kI : ∀ c', res = .inl c' → KC p l e R s m args below meth c (vx_MQ below (McQ s0 D ρ z o hF) (McX s0 D ρ z o hF) args s mc ms (frB s0)) s0 D ρ z nL n0 u0 ((pcs[c'.1]?).getD 0) c'.2.1 c'.2.2.1 c'.2.2.2) (kR : ∀ r', res = .inr r' → r' = (o, hF))
    (hst : ∀ (t k : Nat) (cst : Int32) (nx tg : Nat), M.1[t]? = some (Instr.astore k, cst, nx, tg) → k < nL) :
    KC p l e R s m args below meth c (vx_MQ below (McQ s0 D ρ z o hF) (McX s0 D ρ z o hF) args s mc ms (frB s0)) s0 D ρ z nL n0 u0 r.1 L (.ref q :: S) h := by
  simp only [okE, Bool.and_eq_true, decide_eq_true_eq] at hok
  obtain ⟨hd, hlen, hraw⟩ := hok
  rw [hraw, hlen] at hd
  intro H locs hR hlo ls hl
  have ha999 : aT h q ≠ 999 := by omega
  obtain ⟨-, -, c3, -⟩ := hR.2.2.2.2.2 q (rel_lt hR ha999)
  obtain ⟨cell, z1, z2, z3⟩ := c3 ht.1 ht.2
  have hcv : cvV ρ z (.ref q) = .ref (ρ q) := if_neg (rel_n999 hR ha999)
  simp only [List.map_cons, hcv]
  have k9 := ex_thrown G hW hx hb hown hrows hpcs hH htab hlocks hi ht hs hmc hms kI kR hst (rest := S.map (cvV ρ z)) hR hlo hl z1 z2 (by rw [hW.alike.findClass]; exact z3)
  rw [hpc] at k9
  exact vx_athrow hx hb hd k9
set_option maxHeartbeats 4000000 in
theorem ss_ireturn (G : Gho l s0 D ρ z) (hW : s0.WarmedH s.vm) (hx : p.tables.exec = Jvm.exec) (hb : c.code = cc) (hlocks : meth.locks = false) {y nx tg : Nat} {x cst : Int32} {h : aH} (hy : y < 408) (hret : meth.sig.returnType = mR y) (hok : okE cc own ini pcs (.ireturn, cst, nx, tg) r = true)
    (hc : (pgM y).2.2.2.1 = 1 ∨ (pgM y).2.2.2.1 = 2 ∧ (x = 0 ∨ x = 1) ∨ (pgM y).2.2.2.1 = 4 ∧ narrow .char (.int x) = .int x ∨ (pgM y).2.2.2.1 = 5 ∧ narrow .byte (.int x) = .int x) :
    KC p l e R s m args below meth c (vx_MQ below (McQ s0 D ρ z (.inl (some (.int x))) h) (McX s0 D ρ z (.inl (some (.int x))) h) args s (aN h - n0) (aU h - u0) (frB s0)) s0 D ρ z nL n0 u0 r.1 L [.int x] h := by
  simp only [okE, Bool.and_eq_true, decide_eq_true_eq] at hok
  obtain ⟨hd, hraw, hlen⟩ := hok
  rw [hraw, hlen] at hd
  intro H locs hR hlo ls hl
  have hr := rk_ret hy
  refine vx_ret ?_
  rcases hc with h1 | ⟨h1, h2⟩ | ⟨h1, h2⟩ | ⟨h1, h2⟩
  · exact W.iret hx hb (by rw [hret]; exact hr.2.1 h1) (fun t ht _ => ⟨some (.int x), rfl, rfl, by rw [ht]; exact hR⟩) hlo hd hlocks
  · exact W.zret hx hb (by rw [hret]; exact hr.2.2.1 h1) (nar_bool h2).1 (fun t ht _ => ⟨some (.int x), rfl, rfl, by rw [ht]; exact hR⟩) hlo hd hlocks
  · exact W.zret hx hb (by rw [hret]; exact hr.2.2.2.1 h1) h2 (fun t ht _ => ⟨some (.int x), rfl, rfl, by rw [ht]; exact hR⟩) hlo hd hlocks
  · exact W.zret hx hb (by rw [hret]; exact hr.2.2.2.2.1 h1) h2 (fun t ht _ => ⟨some (.int x), rfl, rfl, by rw [ht]; exact hR⟩) hlo hd hlocks
set_option maxHeartbeats 4000000 in
theorem ss_areturn (G : Gho l s0 D ρ z) (hW : s0.WarmedH s.vm) (hx : p.tables.exec = Jvm.exec) (hb : c.code = cc) (hlocks : meth.locks = false) {y nx tg a : Nat} {cst : Int32} {h : aH} (hy : y < 408) (hret : meth.sig.returnType = mR y) (hok : okE cc own ini pcs (.areturn, cst, nx, tg) r = true) (hc : (pgM y).2.2.2.1 = 3) :
    KC p l e R s m args below meth c (vx_MQ below (McQ s0 D ρ z (.inl (some (.ref a))) h) (McX s0 D ρ z (.inl (some (.ref a))) h) args s (aN h - n0) (aU h - u0) (frB s0)) s0 D ρ z nL n0 u0 r.1 L [.ref a] h := by
  simp only [okE, Bool.and_eq_true, decide_eq_true_eq] at hok
  obtain ⟨hd, hraw, hlen⟩ := hok
  rw [hraw, hlen] at hd
  intro H locs hR hlo ls hl
  have hr := rk_ret hy
  obtain ⟨rt, hr1, hr2⟩ := hr.2.2.2.2.2 hc
  refine vx_ret ?_
  refine W.aret hx hb (by rw [hret]; exact hr1) hr2 ?_ (fun t ht _ => ⟨some (.ref a), rfl, rfl, by rw [ht]; exact hR⟩) hlo hd hlocks
  simp only [cvV]
  split
  · exact G.2.1
  · exact Or.inr ⟨_, rfl⟩
set_option maxHeartbeats 4000000 in
theorem ss_return (G : Gho l s0 D ρ z) (hW : s0.WarmedH s.vm) (hx : p.tables.exec = Jvm.exec) (hb : c.code = cc) (hlocks : meth.locks = false) {y nx tg : Nat} {cst : Int32} {h : aH} (hy : y < 408) (hret : meth.sig.returnType = mR y) (hok : okE cc own ini pcs (.return_, cst, nx, tg) r = true) (hc : (pgM y).2.2.2.1 = 0) :
    KC p l e R s m args below meth c (vx_MQ below (McQ s0 D ρ z (.inl none) h) (McX s0 D ρ z (.inl none) h) args s (aN h - n0) (aU h - u0) (frB s0)) s0 D ρ z nL n0 u0 r.1 L [] h := by
  simp only [okE, Bool.and_eq_true, decide_eq_true_eq] at hok
  obtain ⟨hd, hraw, hlen⟩ := hok
  rw [hraw, hlen] at hd
  intro H locs hR hlo ls hl
  have hr := rk_ret hy
  refine vx_ret ?_
  exact W.vret hx hb (by rw [hret]; exact hr.1 hc) (fun t ht _ => ⟨none, rfl, rfl, by rw [ht]; exact hR⟩) hlo hd hlocks
end STP
