/-! ===== behind a call ===== -/
section BCK
variable {p : Program} {l : Launch} {e : Env} {R : Room} {s : State} {m : MethodId} {args : Array Value} {below : List Frame} {meth : Method} {c : Code} {H : Heap} {locs : List Loc} {cells slots : Nat} {Q : State → Prop}
variable {s0 : State} {D : va_G} {ρ : Nat → Nat} {z : Value} {cc : ByteArray} {own : String} {ini : Bool} {pcs : List Nat} {r : Nat × Instr × Nat × Nat} {L S : List Value} {nL n0 u0 : Nat}
set_option maxHeartbeats 2000000 in
theorem run_bck (G : Gho l s0 D ρ z) (hW : s0.WarmedH s.vm) (hx : p.tables.exec = Jvm.exec) (hb : c.code = cc) (hown : s.vm.findClass own = some m.cls) {y i nx : Nat} {M : mM} {h h1 : aH} {o1 : oR} {a9 : Array Value} {rows : List (Nat × Instr × Nat × Nat)} (hrows : ∀ (i : Nat) (e : mE), M.1[i]? = some e → ∃ r, rows[i]? = some r ∧ okE cc own ini pcs e r = true) (hpcs : pcs = rows.map fun r => r.1)
    (hH : okH own pcs M.2.1 (mH y) = true) {o : oR} (htab : ((∃ v, o = .inl v) ∧ M.2.1 = []) ∨ c.exceptionTable.toList = tableOf (mH y)) (hlocks : meth.locks = false) (hi : i < pcs.length) {hF : aH} {res : cfg ⊕ (oR × aH)} {S' st : List Value} (hbck : bck M i nx L S' (some (o1, h1)) = some res) {mc ms : Nat} (hmc : mc = aN hF - n0) (hms : ms = aU hF - u0) (hn : pcs[nx]?.getD 0 = pcs[i]?.getD 0 + 3)
    (hn0 : n0 ≤ aN h) (hu0 : u0 ≤ aU h) (hle : le2 h h1)
    (kI : ∀ c', res = .inl c' → KC p l e R s m args below meth c (vx_MQ below (McQ s0 D ρ z o hF) (McX s0 D ρ z o hF) args s mc ms (frB s0)) s0 D ρ z nL n0 u0 ((pcs[c'.1]?).getD 0) c'.2.1 c'.2.2.1 c'.2.2.2) (kR : ∀ r', res = .inr r' → r' = (o, hF))
    (hst : ∀ (t k : Nat) (cst : Int32) (nx tg : Nat), M.1[t]? = some (Instr.astore k, cst, nx, tg) → k < nL)
    {H : Heap} {locs : List Loc} {ls : Array Slot} {gst : List Value} (hlo : ∀ q ∈ locs, s0.heap.size ≤ q.base) (hl : lR ρ z nL ls L)
    (hr : vx_Run p l e R s m args below meth c H locs (aN h - n0) (aU h - u0) (aN h1 - aN h) (aU h1 - aU h) (F0 m (pcs[i]?.getD 0) ls gst) (S'.map (cvV ρ z)) (McQ s0 D ρ z o1 h1 a9) (McX s0 D ρ z o1 h1) (frB s0)) :
    W p l e R s m args below meth c H locs (aN h - n0) (aU h - u0) (vx_MQ below (McQ s0 D ρ z o hF) (McX s0 D ρ z o hF) args s mc ms (frB s0)) (F0 m (pcs[i]?.getD 0) ls gst) := by
  intro T hT X
  have c1 : aN h - n0 + (aN h1 - aN h) = aN h1 - n0 := by have := hle.1; omega
  have c2 : aU h - u0 + (aU h1 - aU h) = aU h1 - u0 := by have := hle.2; omega
  have hloL : ∀ {L9 : List Loc}, (∀ q ∈ L9, frB s0 q.base) → ∀ q ∈ locs ++ L9, s0.heap.size ≤ q.base := fun hL q hq => (List.mem_append.mp hq).elim (hlo q) (hL q)
  rcases hr T hT X with ⟨v, st₀, t, T', L9, h0, X', hL, e1, e2, ⟨v', ho, hv, hrel⟩, st⟩ | ⟨q9, st₀, t, T', L9, E, ce, h0, X', hL, e1, e2, ⟨q, ho, t1, t2, hE, hrel⟩, hce, hcv, hcl, st⟩
  · subst ho
    rw [c1, c2] at X'
    have hv' : v = v'.map (cvV ρ z) := by
      injection hv
    subst hv'
    rw [← e1] at hrel
    cases v' with
    | none =>
      have hb2 : res = .inl (nx, L, S', h1) := (Option.some.inj hbck).symm
      have k2 := KC.go hn (kI _ hb2) T'.heap (locs ++ L9) hrel (hloL hL) ls hl
      obtain ⟨t2, a1, b1⟩ := k2 T' rfl X'
      exact ⟨t2, st t2 a1, b1⟩
    | some w =>
      have hb2 : res = .inl (nx, L, w :: S', h1) := (Option.some.inj hbck).symm
      have k2 := KC.go hn (kI _ hb2) T'.heap (locs ++ L9) hrel (hloL hL) ls hl
      obtain ⟨t2, a1, b1⟩ := k2 T' rfl X'
      exact ⟨t2, st t2 a1, b1⟩
  · subst ho
    rw [c1, c2] at X'
    rw [hE] at hcl
    rw [← e1] at hrel hce
    obtain ⟨t2, a1, b1⟩ := ex_thrown G hW hx hb hown hrows hpcs hH htab hlocks hi ⟨t1, t2⟩ hbck hmc hms kI kR hst (rest := S'.map (cvV ρ z)) hrel (hloL hL) hl hce hcv hcl T' rfl X'
    exact ⟨t2, st.trans a1, b1⟩
end BCK
