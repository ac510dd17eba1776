/-! THE CLAIM OUT OF ONE WALK OF THE LAW'S BODY. Your part is whole_start (and what it stands on); all else here is the same for every law, but numbers. -/
def R_law : String := "LastCatchLaw"
def lw_P (b : Addr) (xs : List Int32) (args : Array Value) (s : State) : Prop := args = #[.ref b] ∧ s.IntsAt b xs ∧ xs.length ≤ 3072 ∧ (Jvm.Cond.and given_1 narrow_1).before args s = true
def lw_Q (_ : Array Value) (s : State) (o : Outcome) (t : State) : Prop := o = .returned (some (.int 1)) ∧ Framed s o t [] 601024 7293034
def lw_Z (below : List Frame) (a : Array Value) (s : State) : State → Prop := fun t => ∃ o, t.status = .running ∧ Ended t below o ∧ lw_Q a s o t
/-- the law's own end, with 1 on the stack, nothing written that was there before, its room as the claim has it -/
theorem lw_ret {p : Program} {l : Launch} {e : Env} {s : State} {m : MethodId} {below : List Frame} {meth : Method} {c : Code} {b : Nat} (hx : p.tables.exec = Jvm.exec) (hb : c.code = code) (hr : meth.sig.returnType = ret) (hlocks : meth.locks = false) {pc : Nat} {H : Heap} {ls : Array Slot} (hdg : decode code pc = .ok (.ireturn, 1)) : W p l e room_1 s m #[Value.ref b] below meth c H [] 601024 7293034 (lw_Z below #[Value.ref b] s) (F0 m pc ls [.int 1]) := by
  intro T hT X
  obtain ⟨fs, hret, hrun, hended, hW, hframe⟩ := X.leave (v := some (.int 1)) (hlocks := hlocks) (fun h => by rw [hr] at h; cases h)
  have hmeth' : T.vm.method? m = some meth := X.method'
  refine ⟨T.setFrames fs, ?_, .returned (some (.int 1)), hrun, hended, rfl, ⟨_, rfl⟩, hW, hframe⟩
  jvm_step X.here [X.here.top, hx, hb, hdg, hmeth', hr, ret, narrow_b1]
  (try refine ⟨rfl, ?_⟩); (try refine ⟨rfl, ?_⟩)
  first | (intro acts; rw [hret _ acts rfl rfl rfl]) | rw [hret _ _ rfl rfl rfl]
  exact Steps.refl _
/-- what holds at the law's entry: the machine, the code, the tables' words (any of lw_tbl by 'hts w (by decide +kernel)'), the script of L ints xs at the cell b, what the Statement gives of the start (any of its parts by flat_of_before) -/
def lw_At (p : Program) (s : State) (m : MethodId) (meth : Method) (c : Code) (b L : Nat) (xs : Nat → Int32) : Prop :=
  p.tables.exec = Jvm.exec ∧ c.code = code ∧ meth.sig.returnType = ret ∧ c.maxLocals = 7 ∧ s.vm.findClass R_law = some m.cls ∧ (∀ w ∈ lw_tbl, w.before #[Value.ref b] s = true) ∧ va_X b L xs s s.heap ∧ b < s.heap.size ∧ meth.locks = false ∧ (Jvm.Cond.and given_1 narrow_1).before #[Value.ref b] s = true
/-! ===== the law's own body, run by the abstract machine ===== -/
theorem mB_407 : mB 407 = code := rfl
theorem mN_407 : (mN 407).cls = R_law ∧ (mN 407).name ≠ "<init>" ∧ mR 407 = ret ∧ mH 407 = [] := by decide +kernel
theorem pg_407 : (pgM 407).2.2.1 = 7 ∧ (pgM 407).2.1 = [] := by decide +kernel
section LAWR
variable {p : Program} {l : Launch} {e : Env} {s : State} {m : MethodId} {below : List Frame} {meth : Method} {c : Code} {b : Nat} {D : va_G} {ρ : Nat → Nat} {z : Value}
theorem law_end {hF : aH} {mc ms : Nat} {t : State} (hmc : mc ≤ 601024) (hms : ms ≤ 7293034) (h : vx_MQ below (McQ s D ρ z (.inl (some (.int 1))) hF) (McX s D ρ z (.inl (some (.int 1))) hF) #[Value.ref b] s mc ms (frB s) t) : lw_Z below #[Value.ref b] s t := by
  obtain ⟨o, hrun, hend, h⟩ := h
  rcases h with ⟨⟨v, ho, hout, -⟩, L, hF1, hL⟩ | ⟨q, -, E, ce, L, ⟨q', ho', -⟩, -⟩
  · cases ho
    refine ⟨o, hrun, hend, hout, hF1.1, hF1.2.1, ?_⟩
    exact hF1.2.2.weaken (fun y hy hlt => absurd hlt (Nat.not_lt.mpr (hL y hy))) hmc hms
  · cases ho'
set_option maxHeartbeats 4000000 in
theorem law_run {pcs : List Nat} {h0 hF : aH} {d k kk : Nat} (G : Gho l s D ρ z) (hx : p.tables.exec = Jvm.exec) (hb : c.code = code) (hml : c.maxLocals = 7) (hown : s.vm.findClass R_law = some m.cls) (hret : meth.sig.returnType = ret) (hlocks : meth.locks = false)
    (hrows : ∀ (i : Nat) (e : mE), (pgM 407).1[i]? = some e → ∃ r, (mW 407)[i]? = some r ∧ okE (mB 407) (mN 407).cls (decide ((mN 407).name = "<init>")) pcs e r = true) (hpcs : pcs = (mW 407).map fun r => r.1) (hp0 : pcs[0]?.getD 0 = 0) (IH : SND l s D ρ z d) (hd : d ≤ 500) (hR0 : RelH s D ρ z h0 s.heap) (hρ : ρ 1 = b)
    (hrun : lp Pg (cD Pg d k) (pgM 407) kk (0, .ref 1 :: List.replicate 6 uV, [], h0) = some (.inl (some (.int 1)), hF)) (hmc : aN hF - aN h0 ≤ 601024) (hms : aU hF - aU h0 ≤ 7293034) :
    W p l e room_1 s m #[Value.ref b] below meth c s.heap [] 0 0 (lw_Z below #[Value.ref b] s) (entryFrame m ([Value.ref b] : List Value).toArray 7) := by
  obtain ⟨n1, n2, n3, n4⟩ := mN_407
  obtain ⟨q1, q2⟩ := pg_407
  have k9 := run_snd (R := room_1) (args := #[Value.ref b]) (below := below) (m := m) (meth := meth) (c := c) (p := p) (e := e) G (State.WarmedH.refl s) hx (y := 407) (by rw [mB_407]; exact hb) (by rw [q1]; exact hml) (by rw [n1]; exact hown) (fun h9 => absurd (of_decide_eq_true h9) n2) (by rw [n3]; exact hret) hlocks (by omega) hrows hpcs (by rw [q2, n4]; rfl) (Or.inl ⟨⟨_, rfl⟩, q2⟩) IH (by show d + 9 ≤ 2048; omega) (by show 3100 + 100 * d ≤ 84000; omega) hR0 rfl rfl hmc hms kk _ hrun (le2.refl h0)
  obtain ⟨ls, e1, hl⟩ := ex_entryL (ρ := ρ) (z := z) G.2.1 m (as := [.ref 1]) (nL := 7) rfl (by decide)
  have e3 : cvV ρ z (.ref 1) = .ref (ρ 1) := by simp [cvV]
  have e2 : ([Value.ref 1] : List Value).map (cvV ρ z) = [Value.ref b] := by
    rw [List.map_cons, List.map_nil, e3, hρ]
  rw [e2] at e1
  rw [e1]
  have k8 := k9 s.heap [] hR0 (fun q hq => nomatch hq) ls (by rw [q1]; exact hl)
  rw [Nat.sub_self, Nat.sub_self] at k8
  dsimp only at k8
  rw [hp0] at k8
  intro T hT X
  obtain ⟨t, a1, a2⟩ := k8 T hT X
  exact ⟨t, a1, law_end hmc hms a2⟩
end LAWR
