/-! ===== a method's contract; its entry; its handlers; its ends ===== -/
def McP (s0 : State) (D : va_G) (ρ : Nat → Nat) (z : Value) (as : List Value) (h : aH) : Array Value → State → Prop := fun a st => a = (as.map (cvV ρ z)).toArray ∧ s0.WarmedH st.vm ∧ RelH s0 D ρ z h st.heap
def McQ (s0 : State) (D : va_G) (ρ : Nat → Nat) (z : Value) (o : oR) (hF : aH) : Array Value → State → Outcome → State → Prop := fun _ _ out t => ∃ v, o = .inl v ∧ out = .returned (v.map (cvV ρ z)) ∧ RelH s0 D ρ z hF t.heap
def McX (s0 : State) (D : va_G) (ρ : Nat → Nat) (z : Value) (o : oR) (hF : aH) : String → State → State → Prop := fun E _ t => ∃ q, o = .inr q ∧ 20 ≤ aT hF q ∧ aT hF q < 25 ∧ E = EXn (aT hF q - 20) ∧ RelH s0 D ρ z hF t.heap
def rmD (d mc ms : Nat) : Room := { frames := d + 8, locals := 3000 + 100 * d, cells := mc, slots := ms }
def frB (s0 : State) : Addr → Prop := fun q => s0.heap.size ≤ q
def SND (l : Launch) (s0 : State) (D : va_G) (ρ : Nat → Nat) (z : Value) (d : Nat) : Prop := ∀ (k y : Nat) (as : List Value) (h : aH) (o : oR) (hF : aH), y < 407 → cD Pg d k y as h = some (o, hF) →
  vx_Met l (mN y) [wdc y] (rmD d (aN hF - aN h) (aU hF - aU h)) (McP s0 D ρ z as h) (McQ s0 D ρ z o hF) (McX s0 D ρ z o hF) (aN hF - aN h) (aU hF - aU h) (frB s0)
theorem mc_blind {s0 : State} {D : va_G} {ρ : Nat → Nat} {z : Value} {as : List Value} {h : aH} : FrameBlind (McP s0 D ρ z as h) := fun _ _ _ _ h => h
theorem ex_entry {l : Launch} {y : Nat} {rm : Room} {Pc : Array Value → State → Prop} {Qc : Array Value → State → Outcome → State → Prop} {XC : String → State → State → Prop} {mc ms : Nat} {free : Addr → Prop}
    (hy : plainFor (mN y) = true)
    (body : ∀ p e s m args below meth c s₁, BodyLoose p l (mN y) (headSpec [wdc y] rm) (mB y) (pgM y).2.2.1 (mR y) e s m args below meth c s₁ → c.maxLocals = (pgM y).2.2.1 → c.exceptionTable.toList = tableOf (mH y) → Pc args s →
      W p l e (headSpec [wdc y] rm).room s m args below meth c s.heap [] 0 0 (vx_MQ below Qc XC args s mc ms free) (entryFrame m args (pgM y).2.2.1)) : vx_Met l (mN y) [wdc y] rm Pc Qc XC mc ms free := by
  refine MetFree.of_bodySF (code := mB y) (maxLocals := (pgM y).2.2.1) (ret := mR y) hy ?_ ?_
  · intro args s m h hn
    have hw : (wdc y).before args s = true := atoms_spec (ws := [wdc y]) h _ List.mem_cons_self
    unfold wdc wds at hw
    split at hw
    · obtain ⟨meth, c, h1, h2, h3, h4, h5, h6, -, -⟩ := Cond.code_spec hn hw
      exact ⟨meth, c, h1, h2, h3, h4, h5, h6⟩
    · obtain ⟨m9, meth, c, hn9, h1, h2, h3, h4, -, h5, h6, -⟩ := Cond.codeWith_spec hw
      cases hn.symm.trans hn9
      exact ⟨meth, c, h1, h2, h3, h4, h5, h6⟩
  · intro p e s m args below meth c s₁ B hml hP _
    have hh0 : s₁.heap = s.heap := by rw [B.state]; rfl
    have hw : (wdc y).before args s = true := atoms_spec (ws := [wdc y]) B.pre _ List.mem_cons_self
    have ht : c.exceptionTable.toList = tableOf (mH y) := by
      unfold wdc wds at hw
      split at hw
      · rename_i h9
        rw [h9]
        obtain ⟨meth9, c9, h1, h2, -, -, -, -, h7, -⟩ := Cond.code_spec B.named hw
        cases Option.some.inj (h1.symm.trans B.method)
        cases Option.some.inj (h2.symm.trans (Stand.of_body B).code)
        rw [Array.isEmpty_iff.mp h7]
        rfl
      · exact vx_table (x := mN y) B hw
    obtain ⟨t, a1, o, b1, b2, b3⟩ := body p e s m args below meth c s₁ B hml ht hP s₁ hh0 (Stand.of_body B)
    exact ⟨t, o, a1, b1, b2, b3⟩
theorem ex_entryL {ρ : Nat → Nat} {z : Value} (hz : z = .null ∨ ∃ q, z = .ref q) (m : MethodId) {as : List Value} {nL : Nat} (ho : as.all okV = true) (hl : as.length ≤ nL) : ∃ ls, entryFrame m (as.map (cvV ρ z)).toArray nL = F0 m 0 ls [] ∧ lR ρ z nL ls (as ++ List.replicate (nL - as.length) uV) := by
  have hcat : ∀ v ∈ as.map (cvV ρ z), v.category = 1 := by
    intro v hv
    obtain ⟨w, hw, rfl⟩ := List.mem_map.mp hv
    have h1 := List.all_eq_true.mp ho w hw
    cases w with
    | int x => rfl
    | null => rfl
    | ref a =>
      unfold cvV
      by_cases ha : a = 999
      · simp only [if_pos ha]
        rcases hz with rfl | ⟨q, rfl⟩ <;> rfl
      · simp only [if_neg ha]; rfl
    | _ => exact absurd h1 (by simp [okV])
  refine ⟨_, entry_eq m _ hcat nL, ?_, ?_, ?_, ?_⟩
  · simp; omega
  · simp; omega
  · refine ⟨fun i v h h2 => ?_, fun i h => ?_⟩
    · exfalso
      simp only [List.getElem?_toArray, List.length_map] at h
      by_cases hi : i < as.length
      · rw [List.getElem?_append_left (by simpa using hi), List.getElem?_map] at h
        cases hg : (as.map (cvV ρ z))[i]? with
        | none => rw [hg] at h; cases h
        | some w =>
          rw [hg] at h
          cases h
          have := hcat _ (List.mem_of_getElem? hg)
          omega
      · rw [List.getElem?_append_right (by simpa using hi)] at h
        have := List.mem_of_getElem? h
        rw [List.mem_replicate] at this
        cases this.2
    · exfalso
      simp only [List.getElem?_toArray, List.length_map] at h
      have := List.mem_of_getElem? h
      rcases List.mem_append.mp this with h | h
      · obtain ⟨w, -, hw⟩ := List.mem_map.mp h
        cases hw
      · rw [List.mem_replicate] at h
        cases h.2
  · intro i v h hu hc
    by_cases hi : i < as.length
    · rw [List.getElem?_append_left hi] at h
      simp only [List.getElem?_toArray, List.length_map]
      rw [List.getElem?_append_left (by simpa using hi), List.getElem?_map, List.getElem?_map, h]
      rfl
    · rw [List.getElem?_append_right (by omega)] at h
      have := List.mem_of_getElem? h
      rw [List.mem_replicate] at this
      exact absurd this.2 hu
theorem okL_at {f : mE → (Nat × Instr × Nat × Nat) → Bool} : ∀ (b : Bool) (es : List mE) (rs : List (Nat × Instr × Nat × Nat)), okL b es rs f = true → ∀ (i : Nat) (e : mE), es[i]? = some e → ∃ r, rs[i]? = some r ∧ f e r = true
  | _, [], _, _, i, e, h => by simp at h
  | _, _ :: _, [], h, _, _, _ => by simp [okL] at h
  | b, e0 :: es, r0 :: rs, h, i, e, he => by
    simp only [okL, Bool.and_eq_true] at h
    cases i with
    | zero =>
      simp only [List.getElem?_cons_zero, Option.some.injEq] at he
      subst he
      exact ⟨r0, rfl, h.1⟩
    | succ i =>
      simp only [List.getElem?_cons_succ] at he ⊢
      exact okL_at b es rs h.2 i e he
/-- a row that a thrown cell of that tag passes by -/
def rowOff (own : String) (pc t : Nat) (w : Nat × Nat × Nat × Nat) : Prop := (¬ (w.1 ≤ pc ∧ pc < w.2.1)) ∨ (w.2.2.2 ≠ 0 ∧ ∃ j, j < 5 ∧ j ≠ t - 20 ∧ ∃ q ∈ CLl, q = (own, w.2.2.2, EXn j))
theorem okH_none {own : String} {pcs : List Nat} {i t : Nat} (hi : i < pcs.length) (ht : 20 ≤ t) : ∀ (hs hh : List (Nat × Nat × Nat × Nat)), okH own pcs hs hh = true → hnd hs i t = none → ∀ w ∈ hh, rowOff own (pcs[i]?.getD 0) t w
  | [], [], _, _, w, hw => by cases hw
  | [], _ :: _, h, _, _, _ => by simp [okH] at h
  | _ :: _, [], h, _, _, _ => by simp [okH] at h
  | x :: hs, z :: hh, h, hn, w, hw => by
    simp only [okH, Bool.and_eq_true, decide_eq_true_eq, List.all_eq_true, List.any_eq_true, List.mem_range] at h
    obtain ⟨⟨⟨⟨⟨h1, h2⟩, h3⟩, h4⟩, q, hq, h5⟩, h6⟩ := h
    unfold hnd at hn
    split at hn
    · cases hn
    · rename_i hno
      rcases List.mem_cons.mp hw with rfl | hw
      · by_cases hc : x.1 ≤ i ∧ i < x.2.1
        · exact Or.inr ⟨h4, x.2.2.2 - 20, by omega, fun h9 => hno ⟨hc.1, hc.2, by omega⟩, q, hq, h5⟩
        · exact Or.inl (fun h9 => hc ((h1 i hi).mpr h9))
      · exact okH_none hi ht hs hh h6 hn w hw
theorem okH_some {own : String} {pcs : List Nat} {i t g : Nat} (hi : i < pcs.length) (ht : 20 ≤ t) : ∀ (hs hh : List (Nat × Nat × Nat × Nat)), okH own pcs hs hh = true → hnd hs i t = some g →
    ∃ pre x suf, hh = pre ++ x :: suf ∧ (∀ w ∈ pre, rowOff own (pcs[i]?.getD 0) t w) ∧ (x.1 ≤ pcs[i]?.getD 0 ∧ pcs[i]?.getD 0 < x.2.1) ∧ x.2.2.1 = pcs[g]?.getD 0 ∧ x.2.2.2 ≠ 0 ∧ ∃ q ∈ CLl, q = (own, x.2.2.2, EXn (t - 20))
  | [], _, _, hn => by cases hn
  | _ :: _, [], h, _ => by simp [okH] at h
  | x :: hs, z :: hh, h, hn => by
    simp only [okH, Bool.and_eq_true, decide_eq_true_eq, List.all_eq_true, List.any_eq_true, List.mem_range] at h
    obtain ⟨⟨⟨⟨⟨h1, h2⟩, h3⟩, h4⟩, q, hq, h5⟩, h6⟩ := h
    unfold hnd at hn
    split at hn
    · rename_i hc
      cases hn
      refine ⟨[], z, hh, rfl, (fun w hw => by cases hw), (h1 i hi).mp ⟨hc.1, hc.2.1⟩, h2.symm, h4, q, hq, ?_⟩
      rw [← hc.2.2]; exact h5
    · rename_i hno
      obtain ⟨pre, x9, suf, e1, e2, e3⟩ := okH_some hi ht hs hh h6 hn
      refine ⟨z :: pre, x9, suf, by rw [e1]; rfl, fun w hw => ?_, e3⟩
      rcases List.mem_cons.mp hw with rfl | hw
      · by_cases hc : x.1 ≤ i ∧ i < x.2.1
        · exact Or.inr ⟨h4, x.2.2.2 - 20, by omega, fun h9 => hno ⟨hc.1, hc.2, by omega⟩, q, hq, h5⟩
        · exact Or.inl (fun h9 => hc ((h1 i hi).mpr h9))
      · exact e2 w hw
